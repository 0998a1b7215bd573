set_option maxHeartbeats 4000000 in
set_option maxRecDepth 100000 in
theorem w_Chart_keepFound_L2 {p : Program} {l : Launch} {e : Env} {s : State} {m : MethodId} {args : Array Value} {below : List Frame} {meth : Method} {c : Code} {dC : Nat → ClassId} {dI : Nat → Nat → Nat} {cI cJ cB : ClassId} {a_S a_S_types a_S_ranks a_S_typeRanks a_C a_R a_W a_C_starts a_C_severalStarts a_C_ends a_C_severalEnds a_C_reach a_C_severalReach a_C_found a_C_queue : Nat} {A : Nat → Prop} {Q : State → Prop} (n : Nat) (v1 : Int32) (v2 : Int32) (S_size : Int32) (S_sorts : Int32) (C_queued : Int32) (C_usable : Int32) (C_found : Nat → Int32) (hx : p.tables.exec = Jvm.exec) (hb : c.code = b_Chart_keepFound) (hml : c.maxLocals = 5) (hown : s.vm.findClass "SyntaxTrees$Chart" = some m.cls) (hts : ∀ w ∈ w_Chart_keepFound, w.before args s = true) (hK : x_K (dC, dI) [(cI, .int), (cJ, .long), (cB, .byte)] s) (hA : ∀ q, s.heap.size ≤ q → A q) : ∀ (k : Nat) (v3 : Int32) (C_starts : Nat → Int64) (C_severalStarts : Nat → Int64) (C_ends : Nat → Int64) (C_severalEnds : Nat → Int64) (o : Int32 × (Nat → Int64) × (Nat → Int64) × (Nat → Int64) × (Nat → Int64)) (H : Heap) (locs : List Loc) (ls : Array Slot), f_Chart_keepFound_L2 n v1 v2 S_sorts C_found k v3 C_starts C_severalStarts C_ends C_severalEnds = some o → va_P (dC, dI) vwCl [(a_S, .inr (0, [.ref a_S_types, .ref a_S_ranks, .ref a_S_typeRanks, .int S_size, .int S_sorts])), (a_C, .inr (3, [.ref a_S, .ref a_R, .ref a_W, .ref a_C_starts, .ref a_C_severalStarts, .ref a_C_ends, .ref a_C_severalEnds, .ref a_C_reach, .ref a_C_severalReach, .ref a_C_found, .ref a_C_queue, .int C_queued, .int C_usable])), (a_C_starts, .inl (cJ, 6000, .inr (.inl C_starts))), (a_C_severalStarts, .inl (cJ, 6000, .inr (.inl C_severalStarts))), (a_C_ends, .inl (cJ, 100, .inr (.inl C_ends))), (a_C_severalEnds, .inl (cJ, 100, .inr (.inl C_severalEnds))), (a_C_found, .inl (cI, 100, .inl C_found))] H → va_D A [(a_S, .inr (0, [.ref a_S_types, .ref a_S_ranks, .ref a_S_typeRanks, .int S_size, .int S_sorts])), (a_C, .inr (3, [.ref a_S, .ref a_R, .ref a_W, .ref a_C_starts, .ref a_C_severalStarts, .ref a_C_ends, .ref a_C_severalEnds, .ref a_C_reach, .ref a_C_severalReach, .ref a_C_found, .ref a_C_queue, .int C_queued, .int C_usable])), (a_C_starts, .inl (cJ, 6000, .inr (.inl C_starts))), (a_C_severalStarts, .inl (cJ, 6000, .inr (.inl C_severalStarts))), (a_C_ends, .inl (cJ, 100, .inr (.inl C_ends))), (a_C_severalEnds, .inl (cJ, 100, .inr (.inl C_severalEnds))), (a_C_found, .inl (cI, 100, .inl C_found))] → va_S A s.heap H locs → lv_has ls 5 [(3, .int v3), (0, .ref a_C), (1, .int v1), (2, .int v2)] → (∀ (H : Heap) (locs : List Loc) (ls : Array Slot), va_P (dC, dI) vwCl [(a_S, .inr (0, [.ref a_S_types, .ref a_S_ranks, .ref a_S_typeRanks, .int S_size, .int S_sorts])), (a_C, .inr (3, [.ref a_S, .ref a_R, .ref a_W, .ref a_C_starts, .ref a_C_severalStarts, .ref a_C_ends, .ref a_C_severalEnds, .ref a_C_reach, .ref a_C_severalReach, .ref a_C_found, .ref a_C_queue, .int C_queued, .int C_usable])), (a_C_starts, .inl (cJ, 6000, .inr (.inl o.2.1))), (a_C_severalStarts, .inl (cJ, 6000, .inr (.inl o.2.2.1))), (a_C_ends, .inl (cJ, 100, .inr (.inl o.2.2.2.1))), (a_C_severalEnds, .inl (cJ, 100, .inr (.inl o.2.2.2.2))), (a_C_found, .inl (cI, 100, .inl C_found))] H → va_D A [(a_S, .inr (0, [.ref a_S_types, .ref a_S_ranks, .ref a_S_typeRanks, .int S_size, .int S_sorts])), (a_C, .inr (3, [.ref a_S, .ref a_R, .ref a_W, .ref a_C_starts, .ref a_C_severalStarts, .ref a_C_ends, .ref a_C_severalEnds, .ref a_C_reach, .ref a_C_severalReach, .ref a_C_found, .ref a_C_queue, .int C_queued, .int C_usable])), (a_C_starts, .inl (cJ, 6000, .inr (.inl o.2.1))), (a_C_severalStarts, .inl (cJ, 6000, .inr (.inl o.2.2.1))), (a_C_ends, .inl (cJ, 100, .inr (.inl o.2.2.2.1))), (a_C_severalEnds, .inl (cJ, 100, .inr (.inl o.2.2.2.2))), (a_C_found, .inl (cI, 100, .inl C_found))] → va_S A s.heap H locs → lv_has ls 5 [(3, .int o.1), (0, .ref a_C), (1, .int v1), (2, .int v2)] → W p l e ({ frames := 1, cells := 0, slots := 0, locals := 20 }) s m args below meth c H locs 0 0 Q (F0 m 100 ls [])) → W p l e ({ frames := 1, cells := 0, slots := 0, locals := 20 }) s m args below meth c H locs 0 0 Q (F0 m 2 ls []) := by
  intro k
  induction k with
  | zero =>
    intro v3 C_starts C_severalStarts C_ends C_severalEnds o H locs ls hf
    exact absurd hf (by simp [f_Chart_keepFound_L2])
  | succ k ih =>
    intro v3 C_starts C_severalStarts C_ends C_severalEnds o H locs ls hf hP hD hS hl kk
    rw [f_Chart_keepFound_L2] at hf
    refine lv_iload_n hx hb d_Chart_keepFound_2 rfl (lv_at hl 0 rfl) ?_
    refine lv_aload_n hx hb d_Chart_keepFound_3 rfl (lv_at hl 1 rfl) ?_
    refine va_get (D := (dC, dI)) (ci := 3) (v := .ref a_S) (C := "SyntaxTrees$Chart") (T := F_Chart) (N := 13) hx hb hts (fun w h => List.mem_cons_of_mem _ (in_Chart w h)) hown hK.1 hP 1 rfl rfl 0 (by decide +kernel) (hts _ (List.mem_cons_of_mem _ m_113)) (fun _ h9 => h9) rfl d_Chart_keepFound_4 ?_
    obtain ⟨x1, hx1, hf⟩ := x_bd hf
    refine x_rdiV (As := []) (rest := [.int v3]) (wc := [(a_S, .inr (0, [.ref a_S_types, .ref a_S_ranks, .ref a_S_typeRanks, .int S_size, .int S_sorts]))]) ⟨hx, hb, hml, hown, hts⟩ (c_Symbols_sorts l dC dI cI cJ cB a_S a_S_types a_S_ranks a_S_typeRanks S_size S_sorts n x1 hx1) (cwV 0 hts (x_gV m_310 m_311 m_312 m_43 m_313) rfl rfl rfl hd_Symbols_sorts ⟨Nat.le_of_ble_eq_true rfl, Nat.le_of_ble_eq_true rfl⟩) hK hP [0] rfl (ci := 0) (q0 := 0) rfl rfl rfl rfl hl.1 rfl (Nat.le_of_ble_eq_true rfl) d_Chart_keepFound_7 ⟨Nat.le_of_ble_eq_true rfl, Nat.le_of_ble_eq_true rfl⟩ ?_
    refine lv_icmp_ge (tgt := 100) hx hb d_Chart_keepFound_10 (by decide +kernel) (fun c2 => ?_) (fun c2 => ?_)
    · have hf := x_pos c2 hf
      cases hf
      exact kk _ _ ls hP hD hS (lv_sub hl [0, 1, 2, 3] rfl)
    · have hf := x_neg c2 hf
      refine lv_iload_n hx hb d_Chart_keepFound_13 rfl (lv_at hl 0 rfl) ?_
      refine lv_bipush (v := (60 : Int32)) hx hb d_Chart_keepFound_14 (by decide +kernel) ?_
      refine lv_imul hx hb d_Chart_keepFound_16 ?_
      refine lv_iload_n hx hb d_Chart_keepFound_17 rfl (lv_at hl 3 rfl) ?_
      refine lv_iadd hx hb d_Chart_keepFound_18 ?_
      refine lv_istore (lv' := [(4, .int ((v3 * (60 : Int32)) + v2)), (3, .int v3), (0, .ref a_C), (1, .int v1), (2, .int v2)]) hx hb d_Chart_keepFound_19 hl (by decide +kernel) rfl (fun ls hl => ?_)
      refine lv_aload_n hx hb d_Chart_keepFound_21 rfl (lv_at hl 2 rfl) ?_
      refine va_get (D := (dC, dI)) (ci := 3) (v := .ref a_C_found) (C := "SyntaxTrees$Chart") (T := F_Chart) (N := 13) hx hb hts (fun w h => List.mem_cons_of_mem _ (in_Chart w h)) hown hK.1 hP 1 rfl rfl 9 (by decide +kernel) (hts _ (List.mem_cons_of_mem _ m_122)) (fun _ h9 => h9) rfl d_Chart_keepFound_22 ?_
      refine lv_iload_n hx hb d_Chart_keepFound_25 rfl (lv_at hl 1 rfl) ?_
      obtain ⟨h3, hf⟩ := x_gd hf
      refine va_iald hx hb hK.1 hP 6 0 rfl rfl h3 d_Chart_keepFound_26 ?_
      refine lv_if_le (tgt := 57) hx hb d_Chart_keepFound_27 (by decide +kernel) (fun c4 => ?_) (fun c4 => ?_)
      · have hf := x_pos c4 hf
        refine lv_aload_n hx hb d_Chart_keepFound_57 rfl (lv_at hl 2 rfl) ?_
        refine va_get (D := (dC, dI)) (ci := 3) (v := .ref a_C_found) (C := "SyntaxTrees$Chart") (T := F_Chart) (N := 13) hx hb hts (fun w h => List.mem_cons_of_mem _ (in_Chart w h)) hown hK.1 hP 1 rfl rfl 9 (by decide +kernel) (hts _ (List.mem_cons_of_mem _ m_122)) (fun _ h9 => h9) rfl d_Chart_keepFound_58 ?_
        refine lv_iload_n hx hb d_Chart_keepFound_61 rfl (lv_at hl 1 rfl) ?_
        obtain ⟨h5, hf⟩ := x_gd hf
        refine va_iald hx hb hK.1 hP 6 0 rfl rfl h5 d_Chart_keepFound_62 ?_
        refine lv_iconst (v := (2 : Int32)) hx hb d_Chart_keepFound_63 (by decide +kernel) ?_
        refine lv_icmp_ne (tgt := 94) hx hb d_Chart_keepFound_64 (by decide +kernel) (fun c6 => ?_) (fun c6 => ?_)
        · have hf := x_neg c6 hf
          refine lv_iinc (v := (v3 + (1 : Int32))) (lv' := [(3, .int (v3 + (1 : Int32))), (4, .int ((v3 * (60 : Int32)) + v2)), (0, .ref a_C), (1, .int v1), (2, .int v2)]) hx hb d_Chart_keepFound_94 hl (k := 1) rfl rfl (by decide +kernel) rfl (fun ls hl => ?_)
          refine lv_goto (tgt := 2) hx hb d_Chart_keepFound_97 (by decide +kernel) ?_
          exact ih (v3 + (1 : Int32)) C_starts C_severalStarts C_ends C_severalEnds o _ _ ls hf hP hD hS (lv_sub hl [0, 2, 3, 4] rfl) kk
        · have hf := x_pos c6 hf
          refine lv_aload_n hx hb d_Chart_keepFound_67 rfl (lv_at hl 2 rfl) ?_
          refine va_get (D := (dC, dI)) (ci := 3) (v := .ref a_C_severalStarts) (C := "SyntaxTrees$Chart") (T := F_Chart) (N := 13) hx hb hts (fun w h => List.mem_cons_of_mem _ (in_Chart w h)) hown hK.1 hP 1 rfl rfl 4 (by decide +kernel) (hts _ (List.mem_cons_of_mem _ m_117)) (fun _ h9 => h9) rfl d_Chart_keepFound_68 ?_
          refine lv_iload hx hb d_Chart_keepFound_71 (lv_at hl 0 rfl) ?_
          refine lv_dup2_11 hx hb d_Chart_keepFound_73 rfl rfl ?_
          obtain ⟨h7, hf⟩ := x_gd hf
          refine va_lald hx hb hK.1 hP 3 1 rfl rfl h7 d_Chart_keepFound_74 ?_
          refine lv_iload_n hx hb d_Chart_keepFound_75 rfl (lv_at hl 3 rfl) ?_
          obtain ⟨x8, hx8, hf⟩ := x_bd hf
          refine x_rdlSN (As := [.int v1]) (rest := [.long (C_severalStarts ((v3 * (60 : Int32)) + v2).toNatClampNeg), .int ((v3 * (60 : Int32)) + v2), .ref a_C_severalStarts]) (wc := []) ⟨hx, hb, hml, hown, hts⟩ (c_Top_bit l dC dI cI cJ cB v1 n x8 hx8) ⟨va_cnB 1 hts (x_gC m_364) rfl rfl rfl (hK.2 _ nx_Chart_89) (hts _ (List.mem_cons_of_mem _ m_42)) hd_Top_bit.2 ⟨Nat.le_of_ble_eq_true rfl, Nat.le_of_ble_eq_true rfl⟩, (hts _ (List.mem_cons_of_mem _ m_363)), trivial⟩ hK hP [] rfl rfl hl.1 rfl (Nat.le_of_ble_eq_true rfl) d_Chart_keepFound_76 ⟨Nat.le_of_ble_eq_true rfl, Nat.le_of_ble_eq_true rfl⟩ ?_
          refine lv_lor hx hb d_Chart_keepFound_79 ?_
          obtain ⟨h9, hf⟩ := x_gd hf
          refine x_last (w1 := [(a_S, .inr (0, [.ref a_S_types, .ref a_S_ranks, .ref a_S_typeRanks, .int S_size, .int S_sorts])), (a_C, .inr (3, [.ref a_S, .ref a_R, .ref a_W, .ref a_C_starts, .ref a_C_severalStarts, .ref a_C_ends, .ref a_C_severalEnds, .ref a_C_reach, .ref a_C_severalReach, .ref a_C_found, .ref a_C_queue, .int C_queued, .int C_usable])), (a_C_starts, .inl (cJ, 6000, .inr (.inl C_starts))), (a_C_severalStarts, .inl (cJ, 6000, .inr (.inl (vp_updL C_severalStarts ((v3 * (60 : Int32)) + v2).toNatClampNeg ((C_severalStarts ((v3 * (60 : Int32)) + v2).toNatClampNeg) ||| x8))))), (a_C_ends, .inl (cJ, 100, .inr (.inl C_ends))), (a_C_severalEnds, .inl (cJ, 100, .inr (.inl C_severalEnds))), (a_C_found, .inl (cI, 100, .inl C_found))]) hx hb hK.1 hP hD hS 3 1 rfl rfl h9 d_Chart_keepFound_80 rfl (fun H locs hP hD hS => ?_)
          refine lv_aload_n hx hb d_Chart_keepFound_81 rfl (lv_at hl 2 rfl) ?_
          refine va_get (D := (dC, dI)) (ci := 3) (v := .ref a_C_severalEnds) (C := "SyntaxTrees$Chart") (T := F_Chart) (N := 13) hx hb hts (fun w h => List.mem_cons_of_mem _ (in_Chart w h)) hown hK.1 hP 1 rfl rfl 6 (by decide +kernel) (hts _ (List.mem_cons_of_mem _ m_119)) (fun _ h9 => h9) rfl d_Chart_keepFound_82 ?_
          refine lv_iload_n hx hb d_Chart_keepFound_85 rfl (lv_at hl 1 rfl) ?_
          refine lv_dup2_11 hx hb d_Chart_keepFound_86 rfl rfl ?_
          obtain ⟨h10, hf⟩ := x_gd hf
          refine va_lald hx hb hK.1 hP 5 1 rfl rfl h10 d_Chart_keepFound_87 ?_
          refine lv_iload_n hx hb d_Chart_keepFound_88 rfl (lv_at hl 4 rfl) ?_
          obtain ⟨x11, hx11, hf⟩ := x_bd hf
          refine x_rdlSN (As := [.int v2]) (rest := [.long (C_severalEnds v3.toNatClampNeg), .int v3, .ref a_C_severalEnds]) (wc := []) ⟨hx, hb, hml, hown, hts⟩ (c_Top_bit l dC dI cI cJ cB v2 n x11 hx11) ⟨va_cnB 1 hts (x_gC m_364) rfl rfl rfl (hK.2 _ nx_Chart_89) (hts _ (List.mem_cons_of_mem _ m_42)) hd_Top_bit.2 ⟨Nat.le_of_ble_eq_true rfl, Nat.le_of_ble_eq_true rfl⟩, (hts _ (List.mem_cons_of_mem _ m_363)), trivial⟩ hK hP [] rfl rfl hl.1 rfl (Nat.le_of_ble_eq_true rfl) d_Chart_keepFound_89 ⟨Nat.le_of_ble_eq_true rfl, Nat.le_of_ble_eq_true rfl⟩ ?_
          refine lv_lor hx hb d_Chart_keepFound_92 ?_
          obtain ⟨h12, hf⟩ := x_gd hf
          refine x_last (w1 := [(a_S, .inr (0, [.ref a_S_types, .ref a_S_ranks, .ref a_S_typeRanks, .int S_size, .int S_sorts])), (a_C, .inr (3, [.ref a_S, .ref a_R, .ref a_W, .ref a_C_starts, .ref a_C_severalStarts, .ref a_C_ends, .ref a_C_severalEnds, .ref a_C_reach, .ref a_C_severalReach, .ref a_C_found, .ref a_C_queue, .int C_queued, .int C_usable])), (a_C_starts, .inl (cJ, 6000, .inr (.inl C_starts))), (a_C_severalStarts, .inl (cJ, 6000, .inr (.inl (vp_updL C_severalStarts ((v3 * (60 : Int32)) + v2).toNatClampNeg ((C_severalStarts ((v3 * (60 : Int32)) + v2).toNatClampNeg) ||| x8))))), (a_C_ends, .inl (cJ, 100, .inr (.inl C_ends))), (a_C_severalEnds, .inl (cJ, 100, .inr (.inl (vp_updL C_severalEnds v3.toNatClampNeg ((C_severalEnds v3.toNatClampNeg) ||| x11))))), (a_C_found, .inl (cI, 100, .inl C_found))]) hx hb hK.1 hP hD hS 5 1 rfl rfl h12 d_Chart_keepFound_93 rfl (fun H locs hP hD hS => ?_)
          refine lv_iinc (v := (v3 + (1 : Int32))) (lv' := [(3, .int (v3 + (1 : Int32))), (4, .int ((v3 * (60 : Int32)) + v2)), (0, .ref a_C), (1, .int v1), (2, .int v2)]) hx hb d_Chart_keepFound_94 hl (k := 1) rfl rfl (by decide +kernel) rfl (fun ls hl => ?_)
          refine lv_goto (tgt := 2) hx hb d_Chart_keepFound_97 (by decide +kernel) ?_
          exact ih (v3 + (1 : Int32)) C_starts (vp_updL C_severalStarts ((v3 * (60 : Int32)) + v2).toNatClampNeg ((C_severalStarts ((v3 * (60 : Int32)) + v2).toNatClampNeg) ||| x8)) C_ends (vp_updL C_severalEnds v3.toNatClampNeg ((C_severalEnds v3.toNatClampNeg) ||| x11)) o _ _ ls hf hP hD hS (lv_sub hl [0, 2, 3, 4] rfl) kk
      · have hf := x_neg c4 hf
        refine lv_aload_n hx hb d_Chart_keepFound_30 rfl (lv_at hl 2 rfl) ?_
        refine va_get (D := (dC, dI)) (ci := 3) (v := .ref a_C_starts) (C := "SyntaxTrees$Chart") (T := F_Chart) (N := 13) hx hb hts (fun w h => List.mem_cons_of_mem _ (in_Chart w h)) hown hK.1 hP 1 rfl rfl 3 (by decide +kernel) (hts _ (List.mem_cons_of_mem _ m_116)) (fun _ h9 => h9) rfl d_Chart_keepFound_31 ?_
        refine lv_iload hx hb d_Chart_keepFound_34 (lv_at hl 0 rfl) ?_
        refine lv_dup2_11 hx hb d_Chart_keepFound_36 rfl rfl ?_
        obtain ⟨h13, hf⟩ := x_gd hf
        refine va_lald hx hb hK.1 hP 2 1 rfl rfl h13 d_Chart_keepFound_37 ?_
        refine lv_iload_n hx hb d_Chart_keepFound_38 rfl (lv_at hl 3 rfl) ?_
        obtain ⟨x14, hx14, hf⟩ := x_bd hf
        refine x_rdlSN (As := [.int v1]) (rest := [.long (C_starts ((v3 * (60 : Int32)) + v2).toNatClampNeg), .int ((v3 * (60 : Int32)) + v2), .ref a_C_starts]) (wc := []) ⟨hx, hb, hml, hown, hts⟩ (c_Top_bit l dC dI cI cJ cB v1 n x14 hx14) ⟨va_cnB 1 hts (x_gC m_364) rfl rfl rfl (hK.2 _ nx_Chart_89) (hts _ (List.mem_cons_of_mem _ m_42)) hd_Top_bit.2 ⟨Nat.le_of_ble_eq_true rfl, Nat.le_of_ble_eq_true rfl⟩, (hts _ (List.mem_cons_of_mem _ m_363)), trivial⟩ hK hP [] rfl rfl hl.1 rfl (Nat.le_of_ble_eq_true rfl) d_Chart_keepFound_39 ⟨Nat.le_of_ble_eq_true rfl, Nat.le_of_ble_eq_true rfl⟩ ?_
        refine lv_lor hx hb d_Chart_keepFound_42 ?_
        obtain ⟨h15, hf⟩ := x_gd hf
        refine x_last (w1 := [(a_S, .inr (0, [.ref a_S_types, .ref a_S_ranks, .ref a_S_typeRanks, .int S_size, .int S_sorts])), (a_C, .inr (3, [.ref a_S, .ref a_R, .ref a_W, .ref a_C_starts, .ref a_C_severalStarts, .ref a_C_ends, .ref a_C_severalEnds, .ref a_C_reach, .ref a_C_severalReach, .ref a_C_found, .ref a_C_queue, .int C_queued, .int C_usable])), (a_C_starts, .inl (cJ, 6000, .inr (.inl (vp_updL C_starts ((v3 * (60 : Int32)) + v2).toNatClampNeg ((C_starts ((v3 * (60 : Int32)) + v2).toNatClampNeg) ||| x14))))), (a_C_severalStarts, .inl (cJ, 6000, .inr (.inl C_severalStarts))), (a_C_ends, .inl (cJ, 100, .inr (.inl C_ends))), (a_C_severalEnds, .inl (cJ, 100, .inr (.inl C_severalEnds))), (a_C_found, .inl (cI, 100, .inl C_found))]) hx hb hK.1 hP hD hS 2 1 rfl rfl h15 d_Chart_keepFound_43 rfl (fun H locs hP hD hS => ?_)
        refine lv_aload_n hx hb d_Chart_keepFound_44 rfl (lv_at hl 2 rfl) ?_
        refine va_get (D := (dC, dI)) (ci := 3) (v := .ref a_C_ends) (C := "SyntaxTrees$Chart") (T := F_Chart) (N := 13) hx hb hts (fun w h => List.mem_cons_of_mem _ (in_Chart w h)) hown hK.1 hP 1 rfl rfl 5 (by decide +kernel) (hts _ (List.mem_cons_of_mem _ m_118)) (fun _ h9 => h9) rfl d_Chart_keepFound_45 ?_
        refine lv_iload_n hx hb d_Chart_keepFound_48 rfl (lv_at hl 1 rfl) ?_
        refine lv_dup2_11 hx hb d_Chart_keepFound_49 rfl rfl ?_
        obtain ⟨h16, hf⟩ := x_gd hf
        refine va_lald hx hb hK.1 hP 4 1 rfl rfl h16 d_Chart_keepFound_50 ?_
        refine lv_iload_n hx hb d_Chart_keepFound_51 rfl (lv_at hl 4 rfl) ?_
        obtain ⟨x17, hx17, hf⟩ := x_bd hf
        refine x_rdlSN (As := [.int v2]) (rest := [.long (C_ends v3.toNatClampNeg), .int v3, .ref a_C_ends]) (wc := []) ⟨hx, hb, hml, hown, hts⟩ (c_Top_bit l dC dI cI cJ cB v2 n x17 hx17) ⟨va_cnB 1 hts (x_gC m_364) rfl rfl rfl (hK.2 _ nx_Chart_89) (hts _ (List.mem_cons_of_mem _ m_42)) hd_Top_bit.2 ⟨Nat.le_of_ble_eq_true rfl, Nat.le_of_ble_eq_true rfl⟩, (hts _ (List.mem_cons_of_mem _ m_363)), trivial⟩ hK hP [] rfl rfl hl.1 rfl (Nat.le_of_ble_eq_true rfl) d_Chart_keepFound_52 ⟨Nat.le_of_ble_eq_true rfl, Nat.le_of_ble_eq_true rfl⟩ ?_
        refine lv_lor hx hb d_Chart_keepFound_55 ?_
        obtain ⟨h18, hf⟩ := x_gd hf
        refine x_last (w1 := [(a_S, .inr (0, [.ref a_S_types, .ref a_S_ranks, .ref a_S_typeRanks, .int S_size, .int S_sorts])), (a_C, .inr (3, [.ref a_S, .ref a_R, .ref a_W, .ref a_C_starts, .ref a_C_severalStarts, .ref a_C_ends, .ref a_C_severalEnds, .ref a_C_reach, .ref a_C_severalReach, .ref a_C_found, .ref a_C_queue, .int C_queued, .int C_usable])), (a_C_starts, .inl (cJ, 6000, .inr (.inl (vp_updL C_starts ((v3 * (60 : Int32)) + v2).toNatClampNeg ((C_starts ((v3 * (60 : Int32)) + v2).toNatClampNeg) ||| x14))))), (a_C_severalStarts, .inl (cJ, 6000, .inr (.inl C_severalStarts))), (a_C_ends, .inl (cJ, 100, .inr (.inl (vp_updL C_ends v3.toNatClampNeg ((C_ends v3.toNatClampNeg) ||| x17))))), (a_C_severalEnds, .inl (cJ, 100, .inr (.inl C_severalEnds))), (a_C_found, .inl (cI, 100, .inl C_found))]) hx hb hK.1 hP hD hS 4 1 rfl rfl h18 d_Chart_keepFound_56 rfl (fun H locs hP hD hS => ?_)
        refine lv_aload_n hx hb d_Chart_keepFound_57 rfl (lv_at hl 2 rfl) ?_
        refine va_get (D := (dC, dI)) (ci := 3) (v := .ref a_C_found) (C := "SyntaxTrees$Chart") (T := F_Chart) (N := 13) hx hb hts (fun w h => List.mem_cons_of_mem _ (in_Chart w h)) hown hK.1 hP 1 rfl rfl 9 (by decide +kernel) (hts _ (List.mem_cons_of_mem _ m_122)) (fun _ h9 => h9) rfl d_Chart_keepFound_58 ?_
        refine lv_iload_n hx hb d_Chart_keepFound_61 rfl (lv_at hl 1 rfl) ?_
        obtain ⟨h19, hf⟩ := x_gd hf
        refine va_iald hx hb hK.1 hP 6 0 rfl rfl h19 d_Chart_keepFound_62 ?_
        refine lv_iconst (v := (2 : Int32)) hx hb d_Chart_keepFound_63 (by decide +kernel) ?_
        refine lv_icmp_ne (tgt := 94) hx hb d_Chart_keepFound_64 (by decide +kernel) (fun c20 => ?_) (fun c20 => ?_)
        · have hf := x_neg c20 hf
          refine lv_iinc (v := (v3 + (1 : Int32))) (lv' := [(3, .int (v3 + (1 : Int32))), (4, .int ((v3 * (60 : Int32)) + v2)), (0, .ref a_C), (1, .int v1), (2, .int v2)]) hx hb d_Chart_keepFound_94 hl (k := 1) rfl rfl (by decide +kernel) rfl (fun ls hl => ?_)
          refine lv_goto (tgt := 2) hx hb d_Chart_keepFound_97 (by decide +kernel) ?_
          exact ih (v3 + (1 : Int32)) (vp_updL C_starts ((v3 * (60 : Int32)) + v2).toNatClampNeg ((C_starts ((v3 * (60 : Int32)) + v2).toNatClampNeg) ||| x14)) C_severalStarts (vp_updL C_ends v3.toNatClampNeg ((C_ends v3.toNatClampNeg) ||| x17)) C_severalEnds o _ _ ls hf hP hD hS (lv_sub hl [0, 2, 3, 4] rfl) kk
        · have hf := x_pos c20 hf
          refine lv_aload_n hx hb d_Chart_keepFound_67 rfl (lv_at hl 2 rfl) ?_
          refine va_get (D := (dC, dI)) (ci := 3) (v := .ref a_C_severalStarts) (C := "SyntaxTrees$Chart") (T := F_Chart) (N := 13) hx hb hts (fun w h => List.mem_cons_of_mem _ (in_Chart w h)) hown hK.1 hP 1 rfl rfl 4 (by decide +kernel) (hts _ (List.mem_cons_of_mem _ m_117)) (fun _ h9 => h9) rfl d_Chart_keepFound_68 ?_
          refine lv_iload hx hb d_Chart_keepFound_71 (lv_at hl 0 rfl) ?_
          refine lv_dup2_11 hx hb d_Chart_keepFound_73 rfl rfl ?_
          obtain ⟨h21, hf⟩ := x_gd hf
          refine va_lald hx hb hK.1 hP 3 1 rfl rfl h21 d_Chart_keepFound_74 ?_
          refine lv_iload_n hx hb d_Chart_keepFound_75 rfl (lv_at hl 3 rfl) ?_
          obtain ⟨x22, hx22, hf⟩ := x_bd hf
          refine x_rdlSN (As := [.int v1]) (rest := [.long (C_severalStarts ((v3 * (60 : Int32)) + v2).toNatClampNeg), .int ((v3 * (60 : Int32)) + v2), .ref a_C_severalStarts]) (wc := []) ⟨hx, hb, hml, hown, hts⟩ (c_Top_bit l dC dI cI cJ cB v1 n x22 hx22) ⟨va_cnB 1 hts (x_gC m_364) rfl rfl rfl (hK.2 _ nx_Chart_89) (hts _ (List.mem_cons_of_mem _ m_42)) hd_Top_bit.2 ⟨Nat.le_of_ble_eq_true rfl, Nat.le_of_ble_eq_true rfl⟩, (hts _ (List.mem_cons_of_mem _ m_363)), trivial⟩ hK hP [] rfl rfl hl.1 rfl (Nat.le_of_ble_eq_true rfl) d_Chart_keepFound_76 ⟨Nat.le_of_ble_eq_true rfl, Nat.le_of_ble_eq_true rfl⟩ ?_
          refine lv_lor hx hb d_Chart_keepFound_79 ?_
          obtain ⟨h23, hf⟩ := x_gd hf
          refine x_last (w1 := [(a_S, .inr (0, [.ref a_S_types, .ref a_S_ranks, .ref a_S_typeRanks, .int S_size, .int S_sorts])), (a_C, .inr (3, [.ref a_S, .ref a_R, .ref a_W, .ref a_C_starts, .ref a_C_severalStarts, .ref a_C_ends, .ref a_C_severalEnds, .ref a_C_reach, .ref a_C_severalReach, .ref a_C_found, .ref a_C_queue, .int C_queued, .int C_usable])), (a_C_starts, .inl (cJ, 6000, .inr (.inl (vp_updL C_starts ((v3 * (60 : Int32)) + v2).toNatClampNeg ((C_starts ((v3 * (60 : Int32)) + v2).toNatClampNeg) ||| x14))))), (a_C_severalStarts, .inl (cJ, 6000, .inr (.inl (vp_updL C_severalStarts ((v3 * (60 : Int32)) + v2).toNatClampNeg ((C_severalStarts ((v3 * (60 : Int32)) + v2).toNatClampNeg) ||| x22))))), (a_C_ends, .inl (cJ, 100, .inr (.inl (vp_updL C_ends v3.toNatClampNeg ((C_ends v3.toNatClampNeg) ||| x17))))), (a_C_severalEnds, .inl (cJ, 100, .inr (.inl C_severalEnds))), (a_C_found, .inl (cI, 100, .inl C_found))]) hx hb hK.1 hP hD hS 3 1 rfl rfl h23 d_Chart_keepFound_80 rfl (fun H locs hP hD hS => ?_)
          refine lv_aload_n hx hb d_Chart_keepFound_81 rfl (lv_at hl 2 rfl) ?_
          refine va_get (D := (dC, dI)) (ci := 3) (v := .ref a_C_severalEnds) (C := "SyntaxTrees$Chart") (T := F_Chart) (N := 13) hx hb hts (fun w h => List.mem_cons_of_mem _ (in_Chart w h)) hown hK.1 hP 1 rfl rfl 6 (by decide +kernel) (hts _ (List.mem_cons_of_mem _ m_119)) (fun _ h9 => h9) rfl d_Chart_keepFound_82 ?_
          refine lv_iload_n hx hb d_Chart_keepFound_85 rfl (lv_at hl 1 rfl) ?_
          refine lv_dup2_11 hx hb d_Chart_keepFound_86 rfl rfl ?_
          obtain ⟨h24, hf⟩ := x_gd hf
          refine va_lald hx hb hK.1 hP 5 1 rfl rfl h24 d_Chart_keepFound_87 ?_
          refine lv_iload_n hx hb d_Chart_keepFound_88 rfl (lv_at hl 4 rfl) ?_
          obtain ⟨x25, hx25, hf⟩ := x_bd hf
          refine x_rdlSN (As := [.int v2]) (rest := [.long (C_severalEnds v3.toNatClampNeg), .int v3, .ref a_C_severalEnds]) (wc := []) ⟨hx, hb, hml, hown, hts⟩ (c_Top_bit l dC dI cI cJ cB v2 n x25 hx25) ⟨va_cnB 1 hts (x_gC m_364) rfl rfl rfl (hK.2 _ nx_Chart_89) (hts _ (List.mem_cons_of_mem _ m_42)) hd_Top_bit.2 ⟨Nat.le_of_ble_eq_true rfl, Nat.le_of_ble_eq_true rfl⟩, (hts _ (List.mem_cons_of_mem _ m_363)), trivial⟩ hK hP [] rfl rfl hl.1 rfl (Nat.le_of_ble_eq_true rfl) d_Chart_keepFound_89 ⟨Nat.le_of_ble_eq_true rfl, Nat.le_of_ble_eq_true rfl⟩ ?_
          refine lv_lor hx hb d_Chart_keepFound_92 ?_
          obtain ⟨h26, hf⟩ := x_gd hf
          refine x_last (w1 := [(a_S, .inr (0, [.ref a_S_types, .ref a_S_ranks, .ref a_S_typeRanks, .int S_size, .int S_sorts])), (a_C, .inr (3, [.ref a_S, .ref a_R, .ref a_W, .ref a_C_starts, .ref a_C_severalStarts, .ref a_C_ends, .ref a_C_severalEnds, .ref a_C_reach, .ref a_C_severalReach, .ref a_C_found, .ref a_C_queue, .int C_queued, .int C_usable])), (a_C_starts, .inl (cJ, 6000, .inr (.inl (vp_updL C_starts ((v3 * (60 : Int32)) + v2).toNatClampNeg ((C_starts ((v3 * (60 : Int32)) + v2).toNatClampNeg) ||| x14))))), (a_C_severalStarts, .inl (cJ, 6000, .inr (.inl (vp_updL C_severalStarts ((v3 * (60 : Int32)) + v2).toNatClampNeg ((C_severalStarts ((v3 * (60 : Int32)) + v2).toNatClampNeg) ||| x22))))), (a_C_ends, .inl (cJ, 100, .inr (.inl (vp_updL C_ends v3.toNatClampNeg ((C_ends v3.toNatClampNeg) ||| x17))))), (a_C_severalEnds, .inl (cJ, 100, .inr (.inl (vp_updL C_severalEnds v3.toNatClampNeg ((C_severalEnds v3.toNatClampNeg) ||| x25))))), (a_C_found, .inl (cI, 100, .inl C_found))]) hx hb hK.1 hP hD hS 5 1 rfl rfl h26 d_Chart_keepFound_93 rfl (fun H locs hP hD hS => ?_)
          refine lv_iinc (v := (v3 + (1 : Int32))) (lv' := [(3, .int (v3 + (1 : Int32))), (4, .int ((v3 * (60 : Int32)) + v2)), (0, .ref a_C), (1, .int v1), (2, .int v2)]) hx hb d_Chart_keepFound_94 hl (k := 1) rfl rfl (by decide +kernel) rfl (fun ls hl => ?_)
          refine lv_goto (tgt := 2) hx hb d_Chart_keepFound_97 (by decide +kernel) ?_
          exact ih (v3 + (1 : Int32)) (vp_updL C_starts ((v3 * (60 : Int32)) + v2).toNatClampNeg ((C_starts ((v3 * (60 : Int32)) + v2).toNatClampNeg) ||| x14)) (vp_updL C_severalStarts ((v3 * (60 : Int32)) + v2).toNatClampNeg ((C_severalStarts ((v3 * (60 : Int32)) + v2).toNatClampNeg) ||| x22)) (vp_updL C_ends v3.toNatClampNeg ((C_ends v3.toNatClampNeg) ||| x17)) (vp_updL C_severalEnds v3.toNatClampNeg ((C_severalEnds v3.toNatClampNeg) ||| x25)) o _ _ ls hf hP hD hS (lv_sub hl [0, 2, 3, 4] rfl) kk
set_option maxHeartbeats 4000000 in
set_option maxRecDepth 100000 in
theorem c_Chart_keepFound (l : Launch) (dC : Nat → ClassId) (dI : Nat → Nat → Nat) (cI cJ cB : ClassId) (a_S a_S_types a_S_ranks a_S_typeRanks a_C a_R a_W a_C_starts a_C_severalStarts a_C_ends a_C_severalEnds a_C_reach a_C_severalReach a_C_found a_C_queue : Nat)  (S_size : Int32) (S_sorts : Int32) (C_queued : Int32) (C_usable : Int32) (C_starts : Nat → Int64) (C_severalStarts : Nat → Int64) (C_ends : Nat → Int64) (C_severalEnds : Nat → Int64) (C_found : Nat → Int32) (p1 : Int32) (p2 : Int32) (sz : Nat) (n : Nat) (o : (Nat → Int64) × (Nat → Int64) × (Nat → Int64) × (Nat → Int64)) (hf : f_Chart_keepFound n S_sorts C_starts C_severalStarts C_ends C_severalEnds C_found p1 p2 = some o) : Met l y_Chart_keepFound w_Chart_keepFound ({ frames := 1, cells := 0, slots := 0, locals := 20 }) (va_Pc [.ref a_C, .int p1, .int p2] (fun U => U.heap.size = sz ∧ va_P (dC, dI) vwCl [(a_S, .inr (0, [.ref a_S_types, .ref a_S_ranks, .ref a_S_typeRanks, .int S_size, .int S_sorts])), (a_C, .inr (3, [.ref a_S, .ref a_R, .ref a_W, .ref a_C_starts, .ref a_C_severalStarts, .ref a_C_ends, .ref a_C_severalEnds, .ref a_C_reach, .ref a_C_severalReach, .ref a_C_found, .ref a_C_queue, .int C_queued, .int C_usable])), (a_C_starts, .inl (cJ, 6000, .inr (.inl C_starts))), (a_C_severalStarts, .inl (cJ, 6000, .inr (.inl C_severalStarts))), (a_C_ends, .inl (cJ, 100, .inr (.inl C_ends))), (a_C_severalEnds, .inl (cJ, 100, .inr (.inl C_severalEnds))), (a_C_found, .inl (cI, 100, .inl C_found))] U.heap ∧ x_K (dC, dI) [(cI, .int), (cJ, .long), (cB, .byte)] U ∧ va_D (fun _ => True) [(a_S, .inr (0, [.ref a_S_types, .ref a_S_ranks, .ref a_S_typeRanks, .int S_size, .int S_sorts])), (a_C, .inr (3, [.ref a_S, .ref a_R, .ref a_W, .ref a_C_starts, .ref a_C_severalStarts, .ref a_C_ends, .ref a_C_severalEnds, .ref a_C_reach, .ref a_C_severalReach, .ref a_C_found, .ref a_C_queue, .int C_queued, .int C_usable])), (a_C_starts, .inl (cJ, 6000, .inr (.inl C_starts))), (a_C_severalStarts, .inl (cJ, 6000, .inr (.inl C_severalStarts))), (a_C_ends, .inl (cJ, 100, .inr (.inl C_ends))), (a_C_severalEnds, .inl (cJ, 100, .inr (.inl C_severalEnds))), (a_C_found, .inl (cI, 100, .inl C_found))])) (va_Qv (fun (_ : Unit) => True) (fun _ t => va_P (dC, dI) vwCl [(a_S, .inr (0, [.ref a_S_types, .ref a_S_ranks, .ref a_S_typeRanks, .int S_size, .int S_sorts])), (a_C, .inr (3, [.ref a_S, .ref a_R, .ref a_W, .ref a_C_starts, .ref a_C_severalStarts, .ref a_C_ends, .ref a_C_severalEnds, .ref a_C_reach, .ref a_C_severalReach, .ref a_C_found, .ref a_C_queue, .int C_queued, .int C_usable])), (a_C_starts, .inl (cJ, 6000, .inr (.inl o.1))), (a_C_severalStarts, .inl (cJ, 6000, .inr (.inl o.2.1))), (a_C_ends, .inl (cJ, 100, .inr (.inl o.2.2.1))), (a_C_severalEnds, .inl (cJ, 100, .inr (.inl o.2.2.2))), (a_C_found, .inl (cI, 100, .inl C_found))] t.heap ∧ va_D (va_A [(a_S, .inr (0, [.ref a_S_types, .ref a_S_ranks, .ref a_S_typeRanks, .int S_size, .int S_sorts])), (a_C, .inr (3, [.ref a_S, .ref a_R, .ref a_W, .ref a_C_starts, .ref a_C_severalStarts, .ref a_C_ends, .ref a_C_severalEnds, .ref a_C_reach, .ref a_C_severalReach, .ref a_C_found, .ref a_C_queue, .int C_queued, .int C_usable])), (a_C_starts, .inl (cJ, 6000, .inr (.inl C_starts))), (a_C_severalStarts, .inl (cJ, 6000, .inr (.inl C_severalStarts))), (a_C_ends, .inl (cJ, 100, .inr (.inl C_ends))), (a_C_severalEnds, .inl (cJ, 100, .inr (.inl C_severalEnds))), (a_C_found, .inl (cI, 100, .inl C_found))] sz) [(a_S, .inr (0, [.ref a_S_types, .ref a_S_ranks, .ref a_S_typeRanks, .int S_size, .int S_sorts])), (a_C, .inr (3, [.ref a_S, .ref a_R, .ref a_W, .ref a_C_starts, .ref a_C_severalStarts, .ref a_C_ends, .ref a_C_severalEnds, .ref a_C_reach, .ref a_C_severalReach, .ref a_C_found, .ref a_C_queue, .int C_queued, .int C_usable])), (a_C_starts, .inl (cJ, 6000, .inr (.inl o.1))), (a_C_severalStarts, .inl (cJ, 6000, .inr (.inl o.2.1))), (a_C_ends, .inl (cJ, 100, .inr (.inl o.2.2.1))), (a_C_severalEnds, .inl (cJ, 100, .inr (.inl o.2.2.2))), (a_C_found, .inl (cI, 100, .inl C_found))]) (va_A [(a_S, .inr (0, [.ref a_S_types, .ref a_S_ranks, .ref a_S_typeRanks, .int S_size, .int S_sorts])), (a_C, .inr (3, [.ref a_S, .ref a_R, .ref a_W, .ref a_C_starts, .ref a_C_severalStarts, .ref a_C_ends, .ref a_C_severalEnds, .ref a_C_reach, .ref a_C_severalReach, .ref a_C_found, .ref a_C_queue, .int C_queued, .int C_usable])), (a_C_starts, .inl (cJ, 6000, .inr (.inl C_starts))), (a_C_severalStarts, .inl (cJ, 6000, .inr (.inl C_severalStarts))), (a_C_ends, .inl (cJ, 100, .inr (.inl C_ends))), (a_C_severalEnds, .inl (cJ, 100, .inr (.inl C_severalEnds))), (a_C_found, .inl (cI, 100, .inl C_found))] sz)) 0 0 (va_A [(a_S, .inr (0, [.ref a_S_types, .ref a_S_ranks, .ref a_S_typeRanks, .int S_size, .int S_sorts])), (a_C, .inr (3, [.ref a_S, .ref a_R, .ref a_W, .ref a_C_starts, .ref a_C_severalStarts, .ref a_C_ends, .ref a_C_severalEnds, .ref a_C_reach, .ref a_C_severalReach, .ref a_C_found, .ref a_C_queue, .int C_queued, .int C_usable])), (a_C_starts, .inl (cJ, 6000, .inr (.inl C_starts))), (a_C_severalStarts, .inl (cJ, 6000, .inr (.inl C_severalStarts))), (a_C_ends, .inl (cJ, 100, .inr (.inl C_ends))), (a_C_severalEnds, .inl (cJ, 100, .inr (.inl C_severalEnds))), (a_C_found, .inl (cI, 100, .inl C_found))] sz) := by
  refine Met.ofW (cc := b_Chart_keepFound) (maxL := 5) (ret := none) (by decide +kernel) rfl ?_
  intro p e s m args below meth c s₁ B hml hv
  obtain ⟨rfl, hsz, hP, hK, hD0⟩ := hv
  have hx := B.exec
  have hb := B.bytes
  have hr := B.returns
  have hts := atoms_spec (ws := w_Chart_keepFound) B.pre
  have hown : s.vm.findClass "SyntaxTrees$Chart" = some m.cls := findClass_of_methodNamed B.named
  have hlocks := B.notSynchronized
  subst hsz
  have hD := hD0.self (sz := s.heap.size)
  generalize hAe : va_A [(a_S, .inr (0, [.ref a_S_types, .ref a_S_ranks, .ref a_S_typeRanks, .int S_size, .int S_sorts])), (a_C, .inr (3, [.ref a_S, .ref a_R, .ref a_W, .ref a_C_starts, .ref a_C_severalStarts, .ref a_C_ends, .ref a_C_severalEnds, .ref a_C_reach, .ref a_C_severalReach, .ref a_C_found, .ref a_C_queue, .int C_queued, .int C_usable])), (a_C_starts, .inl (cJ, 6000, .inr (.inl C_starts))), (a_C_severalStarts, .inl (cJ, 6000, .inr (.inl C_severalStarts))), (a_C_ends, .inl (cJ, 100, .inr (.inl C_ends))), (a_C_severalEnds, .inl (cJ, 100, .inr (.inl C_severalEnds))), (a_C_found, .inl (cI, 100, .inl C_found))] s.heap.size = A at hD ⊢
  have hA : ∀ q : Nat, s.heap.size ≤ q → A q := fun q h => by rw [← hAe]; exact Or.inr h
  have hS : va_S A s.heap s.heap [] := va_S.rf
  have hP : va_P (dC, dI) vwCl [(a_S, .inr (0, [.ref a_S_types, .ref a_S_ranks, .ref a_S_typeRanks, .int S_size, .int S_sorts])), (a_C, .inr (3, [.ref a_S, .ref a_R, .ref a_W, .ref a_C_starts, .ref a_C_severalStarts, .ref a_C_ends, .ref a_C_severalEnds, .ref a_C_reach, .ref a_C_severalReach, .ref a_C_found, .ref a_C_queue, .int C_queued, .int C_usable])), (a_C_starts, .inl (cJ, 6000, .inr (.inl C_starts))), (a_C_severalStarts, .inl (cJ, 6000, .inr (.inl C_severalStarts))), (a_C_ends, .inl (cJ, 100, .inr (.inl C_ends))), (a_C_severalEnds, .inl (cJ, 100, .inr (.inl C_severalEnds))), (a_C_found, .inl (cI, 100, .inl C_found))] s.heap := hP
  have hl := lv_entry ([.ref a_C, .int p1, .int p2]) (n := 5) (Nat.le_of_ble_eq_true rfl)
  rw [lg_entry_eq]
  generalize (lg_sl ([.ref a_C, .int p1, .int p2]) ++ List.replicate (5 - (lg_sl ([.ref a_C, .int p1, .int p2])).length) Slot.unset).toArray = ls at hl ⊢
  have hl : lv_has ls 5 [(0, .ref a_C), (1, .int p1), (2, .int p2)] := hl
  refine x_Q (fun Q hQ => ?_)
  unfold f_Chart_keepFound at hf
  refine lv_iconst (v := (0 : Int32)) hx hb d_Chart_keepFound_0 (by decide +kernel) ?_
  refine lv_istore_n (lv' := [(3, .int (0 : Int32)), (0, .ref a_C), (1, .int p1), (2, .int p2)]) hx hb d_Chart_keepFound_1 rfl hl (by decide +kernel) rfl (fun ls hl => ?_)
  obtain ⟨x1, hx1, hf⟩ := x_bd hf
  refine w_Chart_keepFound_L2 n p1 p2 S_size S_sorts C_queued C_usable C_found hx hb hml hown hts hK hA n (0 : Int32) C_starts C_severalStarts C_ends C_severalEnds x1 _ _ ls hx1 hP hD hS (lv_sub hl [0, 1, 2, 3] rfl) (fun H locs ls hP hD hS hl => ?_)
  cases hf
  subst hQ
  exact W.vret hx hb hr (fun t ht _ => ⟨⟨(), rfl, trivial, by rw [ht]; exact hP, hD⟩, hS.F ht⟩) hS.2.2 d_Chart_keepFound_100
set_option maxHeartbeats 4000000 in
set_option maxRecDepth 100000 in
theorem c_Chart_startsOf (l : Launch) (dC : Nat → ClassId) (dI : Nat → Nat → Nat) (cI cJ cB : ClassId) (a_S a_S_types a_S_ranks a_S_typeRanks a_W a_W_row a_C a_R a_C_starts a_C_severalStarts a_C_ends a_C_severalEnds a_C_reach a_C_severalReach a_C_found a_C_queue : Nat)  (S_size : Int32) (S_sorts : Int32) (S_typeRanks : Nat → Int32) (W_length : Int32) (W_row : Nat → Int32) (C_queued : Int32) (C_usable : Int32) (C_starts : Nat → Int64) (p1 : Int32) (p2 : Int32) (n : Nat) (o : Int64) (hf : f_Chart_startsOf n S_size S_typeRanks W_length W_row C_starts p1 p2 = some o) : Met l y_Chart_startsOf w_Chart_startsOf ({ frames := 2, cells := 0, slots := 0, locals := 42 }) (va_Pc [.ref a_C, .int p1, .int p2] (fun U => va_P (dC, dI) vwCl [(a_S, .inr (0, [.ref a_S_types, .ref a_S_ranks, .ref a_S_typeRanks, .int S_size, .int S_sorts])), (a_S_typeRanks, .inl (cI, 1000, .inl S_typeRanks)), (a_W, .inr (2, [.ref a_W_row, .int W_length])), (a_W_row, .inl (cI, 59, .inl W_row)), (a_C, .inr (3, [.ref a_S, .ref a_R, .ref a_W, .ref a_C_starts, .ref a_C_severalStarts, .ref a_C_ends, .ref a_C_severalEnds, .ref a_C_reach, .ref a_C_severalReach, .ref a_C_found, .ref a_C_queue, .int C_queued, .int C_usable])), (a_C_starts, .inl (cJ, 6000, .inr (.inl C_starts)))] U.heap ∧ x_K (dC, dI) [(cI, .int), (cJ, .long), (cB, .byte)] U)) (vp_Sl (fun r => r = o)) 0 0 (fun _ => False) := by
  refine Met.ofW (cc := b_Chart_startsOf) (maxL := 5) (ret := (some .long)) (by decide +kernel) rfl ?_
  intro p e s m args below meth c s₁ B hml hv
  obtain ⟨rfl, hP, hK⟩ := hv
  have hx := B.exec
  have hb := B.bytes
  have hr := B.returns
  have hts := atoms_spec (ws := w_Chart_startsOf) B.pre
  have hown : s.vm.findClass "SyntaxTrees$Chart" = some m.cls := findClass_of_methodNamed B.named
  have hlocks := B.notSynchronized
  have hP : va_P (dC, dI) vwCl [(a_S, .inr (0, [.ref a_S_types, .ref a_S_ranks, .ref a_S_typeRanks, .int S_size, .int S_sorts])), (a_S_typeRanks, .inl (cI, 1000, .inl S_typeRanks)), (a_W, .inr (2, [.ref a_W_row, .int W_length])), (a_W_row, .inl (cI, 59, .inl W_row)), (a_C, .inr (3, [.ref a_S, .ref a_R, .ref a_W, .ref a_C_starts, .ref a_C_severalStarts, .ref a_C_ends, .ref a_C_severalEnds, .ref a_C_reach, .ref a_C_severalReach, .ref a_C_found, .ref a_C_queue, .int C_queued, .int C_usable])), (a_C_starts, .inl (cJ, 6000, .inr (.inl C_starts)))] s.heap := hP
  have hl := lv_entry ([.ref a_C, .int p1, .int p2]) (n := 5) (Nat.le_of_ble_eq_true rfl)
  rw [lg_entry_eq]
  generalize (lg_sl ([.ref a_C, .int p1, .int p2]) ++ List.replicate (5 - (lg_sl ([.ref a_C, .int p1, .int p2])).length) Slot.unset).toArray = ls at hl ⊢
  have hl : lv_has ls 5 [(0, .ref a_C), (1, .int p1), (2, .int p2)] := hl
  refine x_Q (fun Q hQ => ?_)
  unfold f_Chart_startsOf at hf
  refine lv_aload_n hx hb d_Chart_startsOf_0 rfl (lv_at hl 0 rfl) ?_
  refine va_get (D := (dC, dI)) (ci := 3) (v := .ref a_S) (C := "SyntaxTrees$Chart") (T := F_Chart) (N := 13) hx hb hts (fun w h => List.mem_cons_of_mem _ (in_Chart w h)) hown hK.1 hP 4 rfl rfl 0 (by decide +kernel) (hts _ (List.mem_cons_of_mem _ m_113)) (fun _ h9 => h9) rfl d_Chart_startsOf_1 ?_
  refine lv_iload_n hx hb d_Chart_startsOf_4 rfl (lv_at hl 1 rfl) ?_
  obtain ⟨x1, hx1, hf⟩ := x_bd hf
  refine x_rdiV (As := [.int p1]) (rest := []) (wc := [(a_S, .inr (0, [.ref a_S_types, .ref a_S_ranks, .ref a_S_typeRanks, .int S_size, .int S_sorts])), (a_S_typeRanks, .inl (cI, 1000, .inl S_typeRanks))]) ⟨hx, hb, hml, hown, hts⟩ (c_Symbols_typeRankOf l dC dI cI cJ cB a_S a_S_types a_S_ranks a_S_typeRanks S_size S_sorts S_typeRanks p1 n x1 hx1) (cwV 1 hts (x_gV m_362 m_255 m_256 m_43 m_257) rfl rfl rfl hd_Symbols_typeRankOf ⟨Nat.le_of_ble_eq_true rfl, Nat.le_of_ble_eq_true rfl⟩) hK hP [0, 1] rfl (ci := 0) (q0 := 0) rfl rfl rfl rfl hl.1 rfl (Nat.le_of_ble_eq_true rfl) d_Chart_startsOf_5 ⟨Nat.le_of_ble_eq_true rfl, Nat.le_of_ble_eq_true rfl⟩ ?_
  refine lv_istore_n (lv' := [(3, .int x1), (0, .ref a_C), (1, .int p1), (2, .int p2)]) hx hb d_Chart_startsOf_8 rfl hl (by decide +kernel) rfl (fun ls hl => ?_)
  refine lv_iload_n hx hb d_Chart_startsOf_9 rfl (lv_at hl 0 rfl) ?_
  refine lv_iconst (v := (-1 : Int32)) hx hb d_Chart_startsOf_10 (by decide +kernel) ?_
  refine lv_icmp_ne (tgt := 43) hx hb d_Chart_startsOf_11 (by decide +kernel) (fun c2 => ?_) (fun c2 => ?_)
  · have hf := x_neg c2 hf
    refine lv_iload_n hx hb d_Chart_startsOf_43 rfl (lv_at hl 0 rfl) ?_
    refine lv_iload_n hx hb d_Chart_startsOf_44 rfl (lv_at hl 3 rfl) ?_
    obtain ⟨x3, hx3, hf⟩ := x_bd hf
    refine x_rdiS (As := [.int x1, .int p2]) (rest := []) (wc := []) ⟨hx, hb, hml, hown, hts⟩ (c_Chart_placeOf l dC dI cI cJ cB x1 p2 n x3 hx3) (cwS 2 hts (x_gS m_304 m_305 m_46 m_306) rfl rfl rfl hd_Chart_placeOf ⟨Nat.le_of_ble_eq_true rfl, Nat.le_of_ble_eq_true rfl⟩) hK hP [] rfl rfl hl.1 rfl (Nat.le_of_ble_eq_true rfl) d_Chart_startsOf_45 ⟨Nat.le_of_ble_eq_true rfl, Nat.le_of_ble_eq_true rfl⟩ ?_
    refine lv_istore (lv' := [(4, .int x3), (3, .int x1), (0, .ref a_C), (1, .int p1), (2, .int p2)]) hx hb d_Chart_startsOf_48 hl (by decide +kernel) rfl (fun ls hl => ?_)
    refine lv_iload hx hb d_Chart_startsOf_50 (lv_at hl 0 rfl) ?_
    refine lv_iconst (v := (-1 : Int32)) hx hb d_Chart_startsOf_52 (by decide +kernel) ?_
    refine lv_icmp_ne (tgt := 60) hx hb d_Chart_startsOf_53 (by decide +kernel) (fun c4 => ?_) (fun c4 => ?_)
    · have hf := x_neg c4 hf
      refine lv_aload_n hx hb d_Chart_startsOf_60 rfl (lv_at hl 2 rfl) ?_
      refine va_get (D := (dC, dI)) (ci := 3) (v := .ref a_C_starts) (C := "SyntaxTrees$Chart") (T := F_Chart) (N := 13) hx hb hts (fun w h => List.mem_cons_of_mem _ (in_Chart w h)) hown hK.1 hP 4 rfl rfl 3 (by decide +kernel) (hts _ (List.mem_cons_of_mem _ m_116)) (fun _ h9 => h9) rfl d_Chart_startsOf_61 ?_
      refine lv_iload hx hb d_Chart_startsOf_64 (lv_at hl 0 rfl) ?_
      obtain ⟨h5, hf⟩ := x_gd hf
      refine va_lald hx hb hK.1 hP 5 1 rfl rfl h5 d_Chart_startsOf_66 ?_
      cases hf
      subst hQ
      exact W.lret hx hb hr (fun t ht _ => ⟨_, rfl, rfl, ht⟩) (fun _ h => absurd h List.not_mem_nil) d_Chart_startsOf_67
    · have hf := x_pos c4 hf
      refine lv_lconst (v := (0 : Int64)) hx hb d_Chart_startsOf_56 (by decide +kernel) ?_
      refine lv_goto (tgt := 67) hx hb d_Chart_startsOf_57 (by decide +kernel) ?_
      cases hf
      subst hQ
      exact W.lret hx hb hr (fun t ht _ => ⟨_, rfl, rfl, ht⟩) (fun _ h => absurd h List.not_mem_nil) d_Chart_startsOf_67
  · have hf := x_pos c2 hf
    refine lv_iload_n hx hb d_Chart_startsOf_14 rfl (lv_at hl 3 rfl) ?_
    refine lv_if_le (tgt := 41) hx hb d_Chart_startsOf_15 (by decide +kernel) (fun c6 => ?_) (fun c6 => ?_)
    · have hf := x_pos c6 hf
      refine lv_lconst (v := (0 : Int64)) hx hb d_Chart_startsOf_41 (by decide +kernel) ?_
      cases hf
      subst hQ
      exact W.lret hx hb hr (fun t ht _ => ⟨_, rfl, rfl, ht⟩) (fun _ h => absurd h List.not_mem_nil) d_Chart_startsOf_42
    · have hf := x_neg c6 hf
      refine lv_aload_n hx hb d_Chart_startsOf_18 rfl (lv_at hl 1 rfl) ?_
      refine va_get (D := (dC, dI)) (ci := 3) (v := .ref a_W) (C := "SyntaxTrees$Chart") (T := F_Chart) (N := 13) hx hb hts (fun w h => List.mem_cons_of_mem _ (in_Chart w h)) hown hK.1 hP 4 rfl rfl 2 (by decide +kernel) (hts _ (List.mem_cons_of_mem _ m_115)) (fun _ h9 => h9) rfl d_Chart_startsOf_19 ?_
      refine lv_iload_n hx hb d_Chart_startsOf_22 rfl (lv_at hl 3 rfl) ?_
      refine lv_iconst (v := (1 : Int32)) hx hb d_Chart_startsOf_23 (by decide +kernel) ?_
      refine lv_isub hx hb d_Chart_startsOf_24 ?_
      obtain ⟨x7, hx7, hf⟩ := x_bd hf
      refine x_rdiV (As := [.int (p2 - (1 : Int32))]) (rest := []) (wc := [(a_W, .inr (2, [.ref a_W_row, .int W_length])), (a_W_row, .inl (cI, 59, .inl W_row))]) ⟨hx, hb, hml, hown, hts⟩ (c_Row_symbolAt l dC dI cI cJ cB a_W a_W_row W_length W_row (p2 - (1 : Int32)) n x7 hx7) (cwV 1 hts (x_gV m_324 m_325 m_326 m_45 m_327) rfl rfl rfl hd_Row_symbolAt ⟨Nat.le_of_ble_eq_true rfl, Nat.le_of_ble_eq_true rfl⟩) hK hP [2, 3] rfl (ci := 2) (q0 := 0) rfl rfl rfl rfl hl.1 rfl (Nat.le_of_ble_eq_true rfl) d_Chart_startsOf_25 ⟨Nat.le_of_ble_eq_true rfl, Nat.le_of_ble_eq_true rfl⟩ ?_
      refine lv_iload_n hx hb d_Chart_startsOf_28 rfl (lv_at hl 2 rfl) ?_
      refine lv_icmp_ne (tgt := 41) hx hb d_Chart_startsOf_29 (by decide +kernel) (fun c8 => ?_) (fun c8 => ?_)
      · have hf := x_neg c8 hf
        refine lv_lconst (v := (0 : Int64)) hx hb d_Chart_startsOf_41 (by decide +kernel) ?_
        cases hf
        subst hQ
        exact W.lret hx hb hr (fun t ht _ => ⟨_, rfl, rfl, ht⟩) (fun _ h => absurd h List.not_mem_nil) d_Chart_startsOf_42
      · have hf := x_pos c8 hf
        refine lv_iload_n hx hb d_Chart_startsOf_32 rfl (lv_at hl 3 rfl) ?_
        refine lv_iconst (v := (1 : Int32)) hx hb d_Chart_startsOf_33 (by decide +kernel) ?_
        refine lv_isub hx hb d_Chart_startsOf_34 ?_
        obtain ⟨x9, hx9, hf⟩ := x_bd hf
        refine x_rdlSN (As := [.int (p2 - (1 : Int32))]) (rest := []) (wc := []) ⟨hx, hb, hml, hown, hts⟩ (c_Top_bit l dC dI cI cJ cB (p2 - (1 : Int32)) n x9 hx9) ⟨va_cnB 1 hts (x_gC m_364) rfl rfl rfl (hK.2 _ nx_Chart_89) (hts _ (List.mem_cons_of_mem _ m_42)) hd_Top_bit.2 ⟨Nat.le_of_ble_eq_true rfl, Nat.le_of_ble_eq_true rfl⟩, (hts _ (List.mem_cons_of_mem _ m_363)), trivial⟩ hK hP [] rfl rfl hl.1 rfl (Nat.le_of_ble_eq_true rfl) d_Chart_startsOf_35 ⟨Nat.le_of_ble_eq_true rfl, Nat.le_of_ble_eq_true rfl⟩ ?_
        refine lv_goto (tgt := 42) hx hb d_Chart_startsOf_38 (by decide +kernel) ?_
        cases hf
        subst hQ
        exact W.lret hx hb hr (fun t ht _ => ⟨_, rfl, rfl, ht⟩) (fun _ h => absurd h List.not_mem_nil) d_Chart_startsOf_42
set_option maxHeartbeats 4000000 in
set_option maxRecDepth 100000 in
theorem c_Chart_severalStartsOf (l : Launch) (dC : Nat → ClassId) (dI : Nat → Nat → Nat) (cI cJ cB : ClassId) (a_S a_S_types a_S_ranks a_S_typeRanks a_C a_R a_W a_C_starts a_C_severalStarts a_C_ends a_C_severalEnds a_C_reach a_C_severalReach a_C_found a_C_queue : Nat)  (S_size : Int32) (S_sorts : Int32) (S_typeRanks : Nat → Int32) (C_queued : Int32) (C_usable : Int32) (C_severalStarts : Nat → Int64) (p1 : Int32) (p2 : Int32) (n : Nat) (o : Int64) (hf : f_Chart_severalStartsOf n S_size S_typeRanks C_severalStarts p1 p2 = some o) : Met l y_Chart_severalStartsOf w_Chart_severalStartsOf ({ frames := 2, cells := 0, slots := 0, locals := 42 }) (va_Pc [.ref a_C, .int p1, .int p2] (fun U => va_P (dC, dI) vwCl [(a_S, .inr (0, [.ref a_S_types, .ref a_S_ranks, .ref a_S_typeRanks, .int S_size, .int S_sorts])), (a_S_typeRanks, .inl (cI, 1000, .inl S_typeRanks)), (a_C, .inr (3, [.ref a_S, .ref a_R, .ref a_W, .ref a_C_starts, .ref a_C_severalStarts, .ref a_C_ends, .ref a_C_severalEnds, .ref a_C_reach, .ref a_C_severalReach, .ref a_C_found, .ref a_C_queue, .int C_queued, .int C_usable])), (a_C_severalStarts, .inl (cJ, 6000, .inr (.inl C_severalStarts)))] U.heap ∧ x_K (dC, dI) [(cI, .int), (cJ, .long), (cB, .byte)] U)) (vp_Sl (fun r => r = o)) 0 0 (fun _ => False) := by
  refine Met.ofW (cc := b_Chart_severalStartsOf) (maxL := 4) (ret := (some .long)) (by decide +kernel) rfl ?_
  intro p e s m args below meth c s₁ B hml hv
  obtain ⟨rfl, hP, hK⟩ := hv
  have hx := B.exec
  have hb := B.bytes
  have hr := B.returns
  have hts := atoms_spec (ws := w_Chart_severalStartsOf) B.pre
  have hown : s.vm.findClass "SyntaxTrees$Chart" = some m.cls := findClass_of_methodNamed B.named
  have hlocks := B.notSynchronized
  have hP : va_P (dC, dI) vwCl [(a_S, .inr (0, [.ref a_S_types, .ref a_S_ranks, .ref a_S_typeRanks, .int S_size, .int S_sorts])), (a_S_typeRanks, .inl (cI, 1000, .inl S_typeRanks)), (a_C, .inr (3, [.ref a_S, .ref a_R, .ref a_W, .ref a_C_starts, .ref a_C_severalStarts, .ref a_C_ends, .ref a_C_severalEnds, .ref a_C_reach, .ref a_C_severalReach, .ref a_C_found, .ref a_C_queue, .int C_queued, .int C_usable])), (a_C_severalStarts, .inl (cJ, 6000, .inr (.inl C_severalStarts)))] s.heap := hP
  have hl := lv_entry ([.ref a_C, .int p1, .int p2]) (n := 4) (Nat.le_of_ble_eq_true rfl)
  rw [lg_entry_eq]
  generalize (lg_sl ([.ref a_C, .int p1, .int p2]) ++ List.replicate (4 - (lg_sl ([.ref a_C, .int p1, .int p2])).length) Slot.unset).toArray = ls at hl ⊢
  have hl : lv_has ls 4 [(0, .ref a_C), (1, .int p1), (2, .int p2)] := hl
  refine x_Q (fun Q hQ => ?_)
  unfold f_Chart_severalStartsOf at hf
  refine lv_aload_n hx hb d_Chart_severalStartsOf_0 rfl (lv_at hl 0 rfl) ?_
  refine va_get (D := (dC, dI)) (ci := 3) (v := .ref a_S) (C := "SyntaxTrees$Chart") (T := F_Chart) (N := 13) hx hb hts (fun w h => List.mem_cons_of_mem _ (in_Chart w h)) hown hK.1 hP 2 rfl rfl 0 (by decide +kernel) (hts _ (List.mem_cons_of_mem _ m_113)) (fun _ h9 => h9) rfl d_Chart_severalStartsOf_1 ?_
  refine lv_iload_n hx hb d_Chart_severalStartsOf_4 rfl (lv_at hl 1 rfl) ?_
  obtain ⟨x1, hx1, hf⟩ := x_bd hf
  refine x_rdiV (As := [.int p1]) (rest := []) (wc := [(a_S, .inr (0, [.ref a_S_types, .ref a_S_ranks, .ref a_S_typeRanks, .int S_size, .int S_sorts])), (a_S_typeRanks, .inl (cI, 1000, .inl S_typeRanks))]) ⟨hx, hb, hml, hown, hts⟩ (c_Symbols_typeRankOf l dC dI cI cJ cB a_S a_S_types a_S_ranks a_S_typeRanks S_size S_sorts S_typeRanks p1 n x1 hx1) (cwV 1 hts (x_gV m_362 m_255 m_256 m_43 m_257) rfl rfl rfl hd_Symbols_typeRankOf ⟨Nat.le_of_ble_eq_true rfl, Nat.le_of_ble_eq_true rfl⟩) hK hP [0, 1] rfl (ci := 0) (q0 := 0) rfl rfl rfl rfl hl.1 rfl (Nat.le_of_ble_eq_true rfl) d_Chart_severalStartsOf_5 ⟨Nat.le_of_ble_eq_true rfl, Nat.le_of_ble_eq_true rfl⟩ ?_
  refine lv_iload_n hx hb d_Chart_severalStartsOf_8 rfl (lv_at hl 2 rfl) ?_
  obtain ⟨x2, hx2, hf⟩ := x_bd hf
  refine x_rdiS (As := [.int x1, .int p2]) (rest := []) (wc := []) ⟨hx, hb, hml, hown, hts⟩ (c_Chart_placeOf l dC dI cI cJ cB x1 p2 n x2 hx2) (cwS 2 hts (x_gS m_304 m_305 m_46 m_306) rfl rfl rfl hd_Chart_placeOf ⟨Nat.le_of_ble_eq_true rfl, Nat.le_of_ble_eq_true rfl⟩) hK hP [] rfl rfl hl.1 rfl (Nat.le_of_ble_eq_true rfl) d_Chart_severalStartsOf_9 ⟨Nat.le_of_ble_eq_true rfl, Nat.le_of_ble_eq_true rfl⟩ ?_
  refine lv_istore_n (lv' := [(3, .int x2), (0, .ref a_C), (1, .int p1), (2, .int p2)]) hx hb d_Chart_severalStartsOf_12 rfl hl (by decide +kernel) rfl (fun ls hl => ?_)
  refine lv_iload_n hx hb d_Chart_severalStartsOf_13 rfl (lv_at hl 0 rfl) ?_
  refine lv_iconst (v := (-1 : Int32)) hx hb d_Chart_severalStartsOf_14 (by decide +kernel) ?_
  refine lv_icmp_ne (tgt := 22) hx hb d_Chart_severalStartsOf_15 (by decide +kernel) (fun c3 => ?_) (fun c3 => ?_)
  · have hf := x_neg c3 hf
    refine lv_aload_n hx hb d_Chart_severalStartsOf_22 rfl (lv_at hl 1 rfl) ?_
    refine va_get (D := (dC, dI)) (ci := 3) (v := .ref a_C_severalStarts) (C := "SyntaxTrees$Chart") (T := F_Chart) (N := 13) hx hb hts (fun w h => List.mem_cons_of_mem _ (in_Chart w h)) hown hK.1 hP 2 rfl rfl 4 (by decide +kernel) (hts _ (List.mem_cons_of_mem _ m_117)) (fun _ h9 => h9) rfl d_Chart_severalStartsOf_23 ?_
    refine lv_iload_n hx hb d_Chart_severalStartsOf_26 rfl (lv_at hl 0 rfl) ?_
    obtain ⟨h4, hf⟩ := x_gd hf
    refine va_lald hx hb hK.1 hP 3 1 rfl rfl h4 d_Chart_severalStartsOf_27 ?_
    cases hf
    subst hQ
    exact W.lret hx hb hr (fun t ht _ => ⟨_, rfl, rfl, ht⟩) (fun _ h => absurd h List.not_mem_nil) d_Chart_severalStartsOf_28
  · have hf := x_pos c3 hf
    refine lv_lconst (v := (0 : Int64)) hx hb d_Chart_severalStartsOf_18 (by decide +kernel) ?_
    refine lv_goto (tgt := 28) hx hb d_Chart_severalStartsOf_19 (by decide +kernel) ?_
    cases hf
    subst hQ
    exact W.lret hx hb hr (fun t ht _ => ⟨_, rfl, rfl, ht⟩) (fun _ h => absurd h List.not_mem_nil) d_Chart_severalStartsOf_28
set_option maxHeartbeats 4000000 in
set_option maxRecDepth 100000 in
theorem w_Chart_findSingles_L27 {p : Program} {l : Launch} {e : Env} {s : State} {m : MethodId} {args : Array Value} {below : List Frame} {meth : Method} {c : Code} {dC : Nat → ClassId} {dI : Nat → Nat → Nat} {cI cJ cB : ClassId} {a_S a_S_types a_S_ranks a_S_typeRanks a_R a_R_sorts a_R_all a_R_firsts a_R_newestWraps a_R_olderWraps a_C a_W a_C_starts a_C_severalStarts a_C_ends a_C_severalEnds a_C_reach a_C_severalReach a_C_found a_C_queue : Nat} {A : Nat → Prop} {Q : State → Prop} (n : Nat) (v1 : Int32) (S_size : Int32) (S_sorts : Int32) (S_types : Nat → Int32) (S_ranks : Nat → Int32) (R_closed : Int32) (R_used : Int32) (R_isOpen : Int32) (R_sorts : Nat → Int32) (R_all : Nat → Int32) (R_firsts : Nat → Int32) (C_usable : Int32) (hx : p.tables.exec = Jvm.exec) (hb : c.code = b_Chart_findSingles) (hml : c.maxLocals = 3) (hown : s.vm.findClass "SyntaxTrees$Chart" = some m.cls) (hts : ∀ w ∈ w_Chart_findSingles, w.before args s = true) (hK : x_K (dC, dI) [(cI, .int), (cJ, .long), (cB, .byte)] s) (hA : ∀ q, s.heap.size ≤ q → A q) : ∀ (k : Nat) (v2 : Int32) (C_queued : Int32) (C_found : Nat → Int32) (C_queue : Nat → Int32) (o : Int32 × Int32 × (Nat → Int32) × (Nat → Int32)) (H : Heap) (locs : List Loc) (ls : Array Slot), f_Chart_findSingles_L27 n v1 S_size S_ranks R_closed R_used R_sorts R_all R_firsts C_usable k v2 C_queued C_found C_queue = some o → va_P (dC, dI) vwCl [(a_S, .inr (0, [.ref a_S_types, .ref a_S_ranks, .ref a_S_typeRanks, .int S_size, .int S_sorts])), (a_S_types, .inl (cI, 1000, .inl S_types)), (a_S_ranks, .inl (cI, 1000, .inl S_ranks)), (a_R, .inr (1, [.ref a_S, .ref a_R_sorts, .ref a_R_all, .ref a_R_firsts, .ref a_R_newestWraps, .ref a_R_olderWraps, .int R_closed, .int R_used, .int R_isOpen])), (a_R_sorts, .inl (cI, 1500, .inl R_sorts)), (a_R_all, .inl (cI, 30000, .inl R_all)), (a_R_firsts, .inl (cI, 1501, .inl R_firsts)), (a_C, .inr (3, [.ref a_S, .ref a_R, .ref a_W, .ref a_C_starts, .ref a_C_severalStarts, .ref a_C_ends, .ref a_C_severalEnds, .ref a_C_reach, .ref a_C_severalReach, .ref a_C_found, .ref a_C_queue, .int C_queued, .int C_usable])), (a_C_found, .inl (cI, 100, .inl C_found)), (a_C_queue, .inl (cI, 200, .inl C_queue))] H → va_D A [(a_S, .inr (0, [.ref a_S_types, .ref a_S_ranks, .ref a_S_typeRanks, .int S_size, .int S_sorts])), (a_S_types, .inl (cI, 1000, .inl S_types)), (a_S_ranks, .inl (cI, 1000, .inl S_ranks)), (a_R, .inr (1, [.ref a_S, .ref a_R_sorts, .ref a_R_all, .ref a_R_firsts, .ref a_R_newestWraps, .ref a_R_olderWraps, .int R_closed, .int R_used, .int R_isOpen])), (a_R_sorts, .inl (cI, 1500, .inl R_sorts)), (a_R_all, .inl (cI, 30000, .inl R_all)), (a_R_firsts, .inl (cI, 1501, .inl R_firsts)), (a_C, .inr (3, [.ref a_S, .ref a_R, .ref a_W, .ref a_C_starts, .ref a_C_severalStarts, .ref a_C_ends, .ref a_C_severalEnds, .ref a_C_reach, .ref a_C_severalReach, .ref a_C_found, .ref a_C_queue, .int C_queued, .int C_usable])), (a_C_found, .inl (cI, 100, .inl C_found)), (a_C_queue, .inl (cI, 200, .inl C_queue))] → va_S A s.heap H locs → lv_has ls 3 [(2, .int v2), (0, .ref a_C), (1, .int v1)] → (∀ (H : Heap) (locs : List Loc) (ls : Array Slot), va_P (dC, dI) vwCl [(a_S, .inr (0, [.ref a_S_types, .ref a_S_ranks, .ref a_S_typeRanks, .int S_size, .int S_sorts])), (a_S_types, .inl (cI, 1000, .inl S_types)), (a_S_ranks, .inl (cI, 1000, .inl S_ranks)), (a_R, .inr (1, [.ref a_S, .ref a_R_sorts, .ref a_R_all, .ref a_R_firsts, .ref a_R_newestWraps, .ref a_R_olderWraps, .int R_closed, .int R_used, .int R_isOpen])), (a_R_sorts, .inl (cI, 1500, .inl R_sorts)), (a_R_all, .inl (cI, 30000, .inl R_all)), (a_R_firsts, .inl (cI, 1501, .inl R_firsts)), (a_C, .inr (3, [.ref a_S, .ref a_R, .ref a_W, .ref a_C_starts, .ref a_C_severalStarts, .ref a_C_ends, .ref a_C_severalEnds, .ref a_C_reach, .ref a_C_severalReach, .ref a_C_found, .ref a_C_queue, .int o.2.1, .int C_usable])), (a_C_found, .inl (cI, 100, .inl o.2.2.1)), (a_C_queue, .inl (cI, 200, .inl o.2.2.2))] H → va_D A [(a_S, .inr (0, [.ref a_S_types, .ref a_S_ranks, .ref a_S_typeRanks, .int S_size, .int S_sorts])), (a_S_types, .inl (cI, 1000, .inl S_types)), (a_S_ranks, .inl (cI, 1000, .inl S_ranks)), (a_R, .inr (1, [.ref a_S, .ref a_R_sorts, .ref a_R_all, .ref a_R_firsts, .ref a_R_newestWraps, .ref a_R_olderWraps, .int R_closed, .int R_used, .int R_isOpen])), (a_R_sorts, .inl (cI, 1500, .inl R_sorts)), (a_R_all, .inl (cI, 30000, .inl R_all)), (a_R_firsts, .inl (cI, 1501, .inl R_firsts)), (a_C, .inr (3, [.ref a_S, .ref a_R, .ref a_W, .ref a_C_starts, .ref a_C_severalStarts, .ref a_C_ends, .ref a_C_severalEnds, .ref a_C_reach, .ref a_C_severalReach, .ref a_C_found, .ref a_C_queue, .int o.2.1, .int C_usable])), (a_C_found, .inl (cI, 100, .inl o.2.2.1)), (a_C_queue, .inl (cI, 200, .inl o.2.2.2))] → va_S A s.heap H locs → lv_has ls 3 [(2, .int o.1), (0, .ref a_C), (1, .int v1)] → W p l e ({ frames := 3, cells := 0, slots := 0, locals := 67 }) s m args below meth c H locs 0 0 Q (F0 m 85 ls [])) → W p l e ({ frames := 3, cells := 0, slots := 0, locals := 67 }) s m args below meth c H locs 0 0 Q (F0 m 27 ls []) := by
  intro k
  induction k with
  | zero =>
    intro v2 C_queued C_found C_queue o H locs ls hf
    exact absurd hf (by simp [f_Chart_findSingles_L27])
  | succ k ih =>
    intro v2 C_queued C_found C_queue o H locs ls hf hP hD hS hl kk
    rw [f_Chart_findSingles_L27] at hf
    refine lv_iload_n hx hb d_Chart_findSingles_27 rfl (lv_at hl 0 rfl) ?_
    refine lv_aload_n hx hb d_Chart_findSingles_28 rfl (lv_at hl 1 rfl) ?_
    refine va_get (D := (dC, dI)) (ci := 3) (v := .int C_usable) (C := "SyntaxTrees$Chart") (T := F_Chart) (N := 13) hx hb hts (fun w h => List.mem_cons_of_mem _ (in_Chart w h)) hown hK.1 hP 7 rfl rfl 12 (by decide +kernel) (hts _ (List.mem_cons_of_mem _ m_125)) (fun _ h9 => h9) rfl d_Chart_findSingles_29 ?_
    refine lv_icmp_ge (tgt := 85) hx hb d_Chart_findSingles_32 (by decide +kernel) (fun c1 => ?_) (fun c1 => ?_)
    · have hf := x_pos c1 hf
      cases hf
      exact kk _ _ ls hP hD hS (lv_sub hl [0, 1, 2] rfl)
    · have hf := x_neg c1 hf
      refine lv_aload_n hx hb d_Chart_findSingles_35 rfl (lv_at hl 1 rfl) ?_
      refine va_get (D := (dC, dI)) (ci := 3) (v := .ref a_R) (C := "SyntaxTrees$Chart") (T := F_Chart) (N := 13) hx hb hts (fun w h => List.mem_cons_of_mem _ (in_Chart w h)) hown hK.1 hP 7 rfl rfl 1 (by decide +kernel) (hts _ (List.mem_cons_of_mem _ m_114)) (fun _ h9 => h9) rfl d_Chart_findSingles_36 ?_
      refine lv_iload_n hx hb d_Chart_findSingles_39 rfl (lv_at hl 0 rfl) ?_
      obtain ⟨x2, hx2, hf⟩ := x_bd hf
      refine x_rdiV (As := [.int v2]) (rest := []) (wc := [(a_R, .inr (1, [.ref a_S, .ref a_R_sorts, .ref a_R_all, .ref a_R_firsts, .ref a_R_newestWraps, .ref a_R_olderWraps, .int R_closed, .int R_used, .int R_isOpen])), (a_R_firsts, .inl (cI, 1501, .inl R_firsts))]) ⟨hx, hb, hml, hown, hts⟩ (c_Rules_lengthOf l dC dI cI cJ cB a_R a_S a_R_sorts a_R_all a_R_firsts a_R_newestWraps a_R_olderWraps R_closed R_used R_isOpen R_firsts v2 n x2 hx2) (cwV 1 hts (x_gV m_340 m_341 m_342 m_44 m_343) rfl rfl rfl hd_Rules_lengthOf ⟨Nat.le_of_ble_eq_true rfl, Nat.le_of_ble_eq_true rfl⟩) hK hP [3, 6] rfl (ci := 1) (q0 := 0) rfl rfl rfl rfl hl.1 rfl (Nat.le_of_ble_eq_true rfl) d_Chart_findSingles_40 ⟨Nat.le_of_ble_eq_true rfl, Nat.le_of_ble_eq_true rfl⟩ ?_
      refine lv_iconst (v := (1 : Int32)) hx hb d_Chart_findSingles_43 (by decide +kernel) ?_
      refine lv_icmp_ne (tgt := 79) hx hb d_Chart_findSingles_44 (by decide +kernel) (fun c3 => ?_) (fun c3 => ?_)
      · have hf := x_neg c3 hf
        refine lv_iinc (v := (v2 + (1 : Int32))) (lv' := [(2, .int (v2 + (1 : Int32))), (0, .ref a_C), (1, .int v1)]) hx hb d_Chart_findSingles_79 hl (k := 0) rfl rfl (by decide +kernel) rfl (fun ls hl => ?_)
        refine lv_goto (tgt := 27) hx hb d_Chart_findSingles_82 (by decide +kernel) ?_
        exact ih (v2 + (1 : Int32)) C_queued C_found C_queue o _ _ ls hf hP hD hS (lv_sub hl [0, 1, 2] rfl) kk
      · have hf := x_pos c3 hf
        refine lv_aload_n hx hb d_Chart_findSingles_47 rfl (lv_at hl 1 rfl) ?_
        refine va_get (D := (dC, dI)) (ci := 3) (v := .ref a_R) (C := "SyntaxTrees$Chart") (T := F_Chart) (N := 13) hx hb hts (fun w h => List.mem_cons_of_mem _ (in_Chart w h)) hown hK.1 hP 7 rfl rfl 1 (by decide +kernel) (hts _ (List.mem_cons_of_mem _ m_114)) (fun _ h9 => h9) rfl d_Chart_findSingles_48 ?_
        refine lv_aload_n hx hb d_Chart_findSingles_51 rfl (lv_at hl 1 rfl) ?_
        refine va_get (D := (dC, dI)) (ci := 3) (v := .ref a_R) (C := "SyntaxTrees$Chart") (T := F_Chart) (N := 13) hx hb hts (fun w h => List.mem_cons_of_mem _ (in_Chart w h)) hown hK.1 hP 7 rfl rfl 1 (by decide +kernel) (hts _ (List.mem_cons_of_mem _ m_114)) (fun _ h9 => h9) rfl d_Chart_findSingles_52 ?_
        refine lv_iload_n hx hb d_Chart_findSingles_55 rfl (lv_at hl 0 rfl) ?_
        obtain ⟨x4, hx4, hf⟩ := x_bd hf
        refine x_rdiV (As := [.int v2]) (rest := [.ref a_R]) (wc := [(a_R, .inr (1, [.ref a_S, .ref a_R_sorts, .ref a_R_all, .ref a_R_firsts, .ref a_R_newestWraps, .ref a_R_olderWraps, .int R_closed, .int R_used, .int R_isOpen])), (a_R_firsts, .inl (cI, 1501, .inl R_firsts))]) ⟨hx, hb, hml, hown, hts⟩ (c_Rules_firstOf l dC dI cI cJ cB a_R a_S a_R_sorts a_R_all a_R_firsts a_R_newestWraps a_R_olderWraps R_closed R_used R_isOpen R_firsts v2 n x4 hx4) (cwV 1 hts (x_gV m_317 m_318 m_319 m_44 m_320) rfl rfl rfl hd_Rules_firstOf ⟨Nat.le_of_ble_eq_true rfl, Nat.le_of_ble_eq_true rfl⟩) hK hP [3, 6] rfl (ci := 1) (q0 := 0) rfl rfl rfl rfl hl.1 rfl (Nat.le_of_ble_eq_true rfl) d_Chart_findSingles_56 ⟨Nat.le_of_ble_eq_true rfl, Nat.le_of_ble_eq_true rfl⟩ ?_
        obtain ⟨x5, hx5, hf⟩ := x_bd hf
        refine x_rdiV (As := [.int x4]) (rest := []) (wc := [(a_R, .inr (1, [.ref a_S, .ref a_R_sorts, .ref a_R_all, .ref a_R_firsts, .ref a_R_newestWraps, .ref a_R_olderWraps, .int R_closed, .int R_used, .int R_isOpen])), (a_R_all, .inl (cI, 30000, .inl R_all))]) ⟨hx, hb, hml, hown, hts⟩ (c_Rules_symbolAt l dC dI cI cJ cB a_R a_S a_R_sorts a_R_all a_R_firsts a_R_newestWraps a_R_olderWraps R_closed R_used R_isOpen R_all x4 n x5 hx5) (cwV 1 hts (x_gV m_348 m_349 m_350 m_44 m_351) rfl rfl rfl hd_Rules_symbolAt ⟨Nat.le_of_ble_eq_true rfl, Nat.le_of_ble_eq_true rfl⟩) hK hP [3, 5] rfl (ci := 1) (q0 := 0) rfl rfl rfl rfl hl.1 rfl (Nat.le_of_ble_eq_true rfl) d_Chart_findSingles_59 ⟨Nat.le_of_ble_eq_true rfl, Nat.le_of_ble_eq_true rfl⟩ ?_
        refine lv_iload_n hx hb d_Chart_findSingles_62 rfl (lv_at hl 2 rfl) ?_
        refine lv_icmp_ne (tgt := 79) hx hb d_Chart_findSingles_63 (by decide +kernel) (fun c6 => ?_) (fun c6 => ?_)
        · have hf := x_neg c6 hf
          refine lv_iinc (v := (v2 + (1 : Int32))) (lv' := [(2, .int (v2 + (1 : Int32))), (0, .ref a_C), (1, .int v1)]) hx hb d_Chart_findSingles_79 hl (k := 0) rfl rfl (by decide +kernel) rfl (fun ls hl => ?_)
          refine lv_goto (tgt := 27) hx hb d_Chart_findSingles_82 (by decide +kernel) ?_
          exact ih (v2 + (1 : Int32)) C_queued C_found C_queue o _ _ ls hf hP hD hS (lv_sub hl [0, 1, 2] rfl) kk
        · have hf := x_pos c6 hf
          refine lv_aload_n hx hb d_Chart_findSingles_66 rfl (lv_at hl 1 rfl) ?_
          refine lv_aload_n hx hb d_Chart_findSingles_67 rfl (lv_at hl 1 rfl) ?_
          refine va_get (D := (dC, dI)) (ci := 3) (v := .ref a_R) (C := "SyntaxTrees$Chart") (T := F_Chart) (N := 13) hx hb hts (fun w h => List.mem_cons_of_mem _ (in_Chart w h)) hown hK.1 hP 7 rfl rfl 1 (by decide +kernel) (hts _ (List.mem_cons_of_mem _ m_114)) (fun _ h9 => h9) rfl d_Chart_findSingles_68 ?_
          refine lv_iload_n hx hb d_Chart_findSingles_71 rfl (lv_at hl 0 rfl) ?_
          obtain ⟨x7, hx7, hf⟩ := x_bd hf
          refine x_rdiV (As := [.int v2]) (rest := [.ref a_C]) (wc := [(a_R, .inr (1, [.ref a_S, .ref a_R_sorts, .ref a_R_all, .ref a_R_firsts, .ref a_R_newestWraps, .ref a_R_olderWraps, .int R_closed, .int R_used, .int R_isOpen])), (a_R_sorts, .inl (cI, 1500, .inl R_sorts))]) ⟨hx, hb, hml, hown, hts⟩ (c_Rules_sortOf l dC dI cI cJ cB a_R a_S a_R_sorts a_R_all a_R_firsts a_R_newestWraps a_R_olderWraps R_closed R_used R_isOpen R_sorts v2 n x7 hx7) (cwV 1 hts (x_gV m_352 m_353 m_354 m_44 m_355) rfl rfl rfl hd_Rules_sortOf ⟨Nat.le_of_ble_eq_true rfl, Nat.le_of_ble_eq_true rfl⟩) hK hP [3, 4] rfl (ci := 1) (q0 := 0) rfl rfl rfl rfl hl.1 rfl (Nat.le_of_ble_eq_true rfl) d_Chart_findSingles_72 ⟨Nat.le_of_ble_eq_true rfl, Nat.le_of_ble_eq_true rfl⟩ ?_
          refine lv_iconst (v := (1 : Int32)) hx hb d_Chart_findSingles_75 (by decide +kernel) ?_
          obtain ⟨x8, hx8, hf⟩ := x_bd hf
          refine x_wrvV (As := [.int x7, .int (1 : Int32)]) (rest := []) (wc := [(a_S, .inr (0, [.ref a_S_types, .ref a_S_ranks, .ref a_S_typeRanks, .int S_size, .int S_sorts])), (a_S_ranks, .inl (cI, 1000, .inl S_ranks)), (a_C, .inr (3, [.ref a_S, .ref a_R, .ref a_W, .ref a_C_starts, .ref a_C_severalStarts, .ref a_C_ends, .ref a_C_severalEnds, .ref a_C_reach, .ref a_C_severalReach, .ref a_C_found, .ref a_C_queue, .int C_queued, .int C_usable])), (a_C_found, .inl (cI, 100, .inl C_found)), (a_C_queue, .inl (cI, 200, .inl C_queue))]) (wr := [(a_S_types, .inl (cI, 1000, .inl S_types)), (a_R, .inr (1, [.ref a_S, .ref a_R_sorts, .ref a_R_all, .ref a_R_firsts, .ref a_R_newestWraps, .ref a_R_olderWraps, .int R_closed, .int R_used, .int R_isOpen])), (a_R_sorts, .inl (cI, 1500, .inl R_sorts)), (a_R_all, .inl (cI, 30000, .inl R_all)), (a_R_firsts, .inl (cI, 1501, .inl R_firsts))]) (w1 := [(a_S, .inr (0, [.ref a_S_types, .ref a_S_ranks, .ref a_S_typeRanks, .int S_size, .int S_sorts])), (a_S_ranks, .inl (cI, 1000, .inl S_ranks)), (a_C, .inr (3, [.ref a_S, .ref a_R, .ref a_W, .ref a_C_starts, .ref a_C_severalStarts, .ref a_C_ends, .ref a_C_severalEnds, .ref a_C_reach, .ref a_C_severalReach, .ref a_C_found, .ref a_C_queue, .int x8.1, .int C_usable])), (a_C_found, .inl (cI, 100, .inl x8.2.1)), (a_C_queue, .inl (cI, 200, .inl x8.2.2))]) (wf := [(a_S, .inr (0, [.ref a_S_types, .ref a_S_ranks, .ref a_S_typeRanks, .int S_size, .int S_sorts])), (a_S_types, .inl (cI, 1000, .inl S_types)), (a_S_ranks, .inl (cI, 1000, .inl S_ranks)), (a_R, .inr (1, [.ref a_S, .ref a_R_sorts, .ref a_R_all, .ref a_R_firsts, .ref a_R_newestWraps, .ref a_R_olderWraps, .int R_closed, .int R_used, .int R_isOpen])), (a_R_sorts, .inl (cI, 1500, .inl R_sorts)), (a_R_all, .inl (cI, 30000, .inl R_all)), (a_R_firsts, .inl (cI, 1501, .inl R_firsts)), (a_C, .inr (3, [.ref a_S, .ref a_R, .ref a_W, .ref a_C_starts, .ref a_C_severalStarts, .ref a_C_ends, .ref a_C_severalEnds, .ref a_C_reach, .ref a_C_severalReach, .ref a_C_found, .ref a_C_queue, .int x8.1, .int C_usable])), (a_C_found, .inl (cI, 100, .inl x8.2.1)), (a_C_queue, .inl (cI, 200, .inl x8.2.2))]) ⟨hx, hb, hml, hown, hts⟩ (c_Chart_addTrees l dC dI cI cJ cB a_S a_S_types a_S_ranks a_S_typeRanks a_C a_R a_W a_C_starts a_C_severalStarts a_C_ends a_C_severalEnds a_C_reach a_C_severalReach a_C_found a_C_queue S_size S_sorts S_ranks C_queued C_usable C_found C_queue x7 (1 : Int32) H.size n x8 hx8) (cwV 2 hts (x_gV m_336 m_337 m_8 m_46 m_338) rfl rfl rfl hd_Chart_addTrees ⟨Nat.le_of_ble_eq_true rfl, Nat.le_of_ble_eq_true rfl⟩) hK hP hD hS hA [0, 2, 7, 8, 9] [1, 3, 4, 5, 6] [5, 0, 6, 1, 2, 3, 4, 7, 8, 9] rfl rfl rfl (by decide +kernel) (by decide +kernel) (by decide +kernel) (by decide +kernel) (ci := 3) (q0 := 2) rfl rfl rfl rfl hl.1 rfl (Nat.le_of_ble_eq_true rfl) d_Chart_findSingles_76 ⟨Nat.le_of_ble_eq_true rfl, Nat.le_of_ble_eq_true rfl⟩ (fun H locs hP hD hS => ?_)
          refine lv_iinc (v := (v2 + (1 : Int32))) (lv' := [(2, .int (v2 + (1 : Int32))), (0, .ref a_C), (1, .int v1)]) hx hb d_Chart_findSingles_79 hl (k := 0) rfl rfl (by decide +kernel) rfl (fun ls hl => ?_)
          refine lv_goto (tgt := 27) hx hb d_Chart_findSingles_82 (by decide +kernel) ?_
          exact ih (v2 + (1 : Int32)) x8.1 x8.2.1 x8.2.2 o _ _ ls hf hP hD hS (lv_sub hl [0, 1, 2] rfl) kk
set_option maxHeartbeats 4000000 in
set_option maxRecDepth 100000 in
theorem c_Chart_findSingles (l : Launch) (dC : Nat → ClassId) (dI : Nat → Nat → Nat) (cI cJ cB : ClassId) (a_S a_S_types a_S_ranks a_S_typeRanks a_R a_R_sorts a_R_all a_R_firsts a_R_newestWraps a_R_olderWraps a_C a_W a_C_starts a_C_severalStarts a_C_ends a_C_severalEnds a_C_reach a_C_severalReach a_C_found a_C_queue : Nat)  (S_size : Int32) (S_sorts : Int32) (S_types : Nat → Int32) (S_ranks : Nat → Int32) (R_closed : Int32) (R_used : Int32) (R_isOpen : Int32) (R_sorts : Nat → Int32) (R_all : Nat → Int32) (R_firsts : Nat → Int32) (C_queued : Int32) (C_usable : Int32) (C_found : Nat → Int32) (C_queue : Nat → Int32) (p1 : Int32) (sz : Nat) (n : Nat) (o : Int32 × (Nat → Int32) × (Nat → Int32)) (hf : f_Chart_findSingles n S_size S_types S_ranks R_closed R_used R_sorts R_all R_firsts C_queued C_usable C_found C_queue p1 = some o) : Met l y_Chart_findSingles w_Chart_findSingles ({ frames := 3, cells := 0, slots := 0, locals := 67 }) (va_Pc [.ref a_C, .int p1] (fun U => U.heap.size = sz ∧ va_P (dC, dI) vwCl [(a_S, .inr (0, [.ref a_S_types, .ref a_S_ranks, .ref a_S_typeRanks, .int S_size, .int S_sorts])), (a_S_types, .inl (cI, 1000, .inl S_types)), (a_S_ranks, .inl (cI, 1000, .inl S_ranks)), (a_R, .inr (1, [.ref a_S, .ref a_R_sorts, .ref a_R_all, .ref a_R_firsts, .ref a_R_newestWraps, .ref a_R_olderWraps, .int R_closed, .int R_used, .int R_isOpen])), (a_R_sorts, .inl (cI, 1500, .inl R_sorts)), (a_R_all, .inl (cI, 30000, .inl R_all)), (a_R_firsts, .inl (cI, 1501, .inl R_firsts)), (a_C, .inr (3, [.ref a_S, .ref a_R, .ref a_W, .ref a_C_starts, .ref a_C_severalStarts, .ref a_C_ends, .ref a_C_severalEnds, .ref a_C_reach, .ref a_C_severalReach, .ref a_C_found, .ref a_C_queue, .int C_queued, .int C_usable])), (a_C_found, .inl (cI, 100, .inl C_found)), (a_C_queue, .inl (cI, 200, .inl C_queue))] U.heap ∧ x_K (dC, dI) [(cI, .int), (cJ, .long), (cB, .byte)] U ∧ va_D (fun _ => True) [(a_S, .inr (0, [.ref a_S_types, .ref a_S_ranks, .ref a_S_typeRanks, .int S_size, .int S_sorts])), (a_S_types, .inl (cI, 1000, .inl S_types)), (a_S_ranks, .inl (cI, 1000, .inl S_ranks)), (a_R, .inr (1, [.ref a_S, .ref a_R_sorts, .ref a_R_all, .ref a_R_firsts, .ref a_R_newestWraps, .ref a_R_olderWraps, .int R_closed, .int R_used, .int R_isOpen])), (a_R_sorts, .inl (cI, 1500, .inl R_sorts)), (a_R_all, .inl (cI, 30000, .inl R_all)), (a_R_firsts, .inl (cI, 1501, .inl R_firsts)), (a_C, .inr (3, [.ref a_S, .ref a_R, .ref a_W, .ref a_C_starts, .ref a_C_severalStarts, .ref a_C_ends, .ref a_C_severalEnds, .ref a_C_reach, .ref a_C_severalReach, .ref a_C_found, .ref a_C_queue, .int C_queued, .int C_usable])), (a_C_found, .inl (cI, 100, .inl C_found)), (a_C_queue, .inl (cI, 200, .inl C_queue))])) (va_Qv (fun (_ : Unit) => True) (fun _ t => va_P (dC, dI) vwCl [(a_S, .inr (0, [.ref a_S_types, .ref a_S_ranks, .ref a_S_typeRanks, .int S_size, .int S_sorts])), (a_S_types, .inl (cI, 1000, .inl S_types)), (a_S_ranks, .inl (cI, 1000, .inl S_ranks)), (a_R, .inr (1, [.ref a_S, .ref a_R_sorts, .ref a_R_all, .ref a_R_firsts, .ref a_R_newestWraps, .ref a_R_olderWraps, .int R_closed, .int R_used, .int R_isOpen])), (a_R_sorts, .inl (cI, 1500, .inl R_sorts)), (a_R_all, .inl (cI, 30000, .inl R_all)), (a_R_firsts, .inl (cI, 1501, .inl R_firsts)), (a_C, .inr (3, [.ref a_S, .ref a_R, .ref a_W, .ref a_C_starts, .ref a_C_severalStarts, .ref a_C_ends, .ref a_C_severalEnds, .ref a_C_reach, .ref a_C_severalReach, .ref a_C_found, .ref a_C_queue, .int o.1, .int C_usable])), (a_C_found, .inl (cI, 100, .inl o.2.1)), (a_C_queue, .inl (cI, 200, .inl o.2.2))] t.heap ∧ va_D (va_A [(a_S, .inr (0, [.ref a_S_types, .ref a_S_ranks, .ref a_S_typeRanks, .int S_size, .int S_sorts])), (a_S_types, .inl (cI, 1000, .inl S_types)), (a_S_ranks, .inl (cI, 1000, .inl S_ranks)), (a_R, .inr (1, [.ref a_S, .ref a_R_sorts, .ref a_R_all, .ref a_R_firsts, .ref a_R_newestWraps, .ref a_R_olderWraps, .int R_closed, .int R_used, .int R_isOpen])), (a_R_sorts, .inl (cI, 1500, .inl R_sorts)), (a_R_all, .inl (cI, 30000, .inl R_all)), (a_R_firsts, .inl (cI, 1501, .inl R_firsts)), (a_C, .inr (3, [.ref a_S, .ref a_R, .ref a_W, .ref a_C_starts, .ref a_C_severalStarts, .ref a_C_ends, .ref a_C_severalEnds, .ref a_C_reach, .ref a_C_severalReach, .ref a_C_found, .ref a_C_queue, .int C_queued, .int C_usable])), (a_C_found, .inl (cI, 100, .inl C_found)), (a_C_queue, .inl (cI, 200, .inl C_queue))] sz) [(a_S, .inr (0, [.ref a_S_types, .ref a_S_ranks, .ref a_S_typeRanks, .int S_size, .int S_sorts])), (a_S_types, .inl (cI, 1000, .inl S_types)), (a_S_ranks, .inl (cI, 1000, .inl S_ranks)), (a_R, .inr (1, [.ref a_S, .ref a_R_sorts, .ref a_R_all, .ref a_R_firsts, .ref a_R_newestWraps, .ref a_R_olderWraps, .int R_closed, .int R_used, .int R_isOpen])), (a_R_sorts, .inl (cI, 1500, .inl R_sorts)), (a_R_all, .inl (cI, 30000, .inl R_all)), (a_R_firsts, .inl (cI, 1501, .inl R_firsts)), (a_C, .inr (3, [.ref a_S, .ref a_R, .ref a_W, .ref a_C_starts, .ref a_C_severalStarts, .ref a_C_ends, .ref a_C_severalEnds, .ref a_C_reach, .ref a_C_severalReach, .ref a_C_found, .ref a_C_queue, .int o.1, .int C_usable])), (a_C_found, .inl (cI, 100, .inl o.2.1)), (a_C_queue, .inl (cI, 200, .inl o.2.2))]) (va_A [(a_S, .inr (0, [.ref a_S_types, .ref a_S_ranks, .ref a_S_typeRanks, .int S_size, .int S_sorts])), (a_S_types, .inl (cI, 1000, .inl S_types)), (a_S_ranks, .inl (cI, 1000, .inl S_ranks)), (a_R, .inr (1, [.ref a_S, .ref a_R_sorts, .ref a_R_all, .ref a_R_firsts, .ref a_R_newestWraps, .ref a_R_olderWraps, .int R_closed, .int R_used, .int R_isOpen])), (a_R_sorts, .inl (cI, 1500, .inl R_sorts)), (a_R_all, .inl (cI, 30000, .inl R_all)), (a_R_firsts, .inl (cI, 1501, .inl R_firsts)), (a_C, .inr (3, [.ref a_S, .ref a_R, .ref a_W, .ref a_C_starts, .ref a_C_severalStarts, .ref a_C_ends, .ref a_C_severalEnds, .ref a_C_reach, .ref a_C_severalReach, .ref a_C_found, .ref a_C_queue, .int C_queued, .int C_usable])), (a_C_found, .inl (cI, 100, .inl C_found)), (a_C_queue, .inl (cI, 200, .inl C_queue))] sz)) 0 0 (va_A [(a_S, .inr (0, [.ref a_S_types, .ref a_S_ranks, .ref a_S_typeRanks, .int S_size, .int S_sorts])), (a_S_types, .inl (cI, 1000, .inl S_types)), (a_S_ranks, .inl (cI, 1000, .inl S_ranks)), (a_R, .inr (1, [.ref a_S, .ref a_R_sorts, .ref a_R_all, .ref a_R_firsts, .ref a_R_newestWraps, .ref a_R_olderWraps, .int R_closed, .int R_used, .int R_isOpen])), (a_R_sorts, .inl (cI, 1500, .inl R_sorts)), (a_R_all, .inl (cI, 30000, .inl R_all)), (a_R_firsts, .inl (cI, 1501, .inl R_firsts)), (a_C, .inr (3, [.ref a_S, .ref a_R, .ref a_W, .ref a_C_starts, .ref a_C_severalStarts, .ref a_C_ends, .ref a_C_severalEnds, .ref a_C_reach, .ref a_C_severalReach, .ref a_C_found, .ref a_C_queue, .int C_queued, .int C_usable])), (a_C_found, .inl (cI, 100, .inl C_found)), (a_C_queue, .inl (cI, 200, .inl C_queue))] sz) := by
  refine Met.ofW (cc := b_Chart_findSingles) (maxL := 3) (ret := none) (by decide +kernel) rfl ?_
  intro p e s m args below meth c s₁ B hml hv
  obtain ⟨rfl, hsz, hP, hK, hD0⟩ := hv
  have hx := B.exec
  have hb := B.bytes
  have hr := B.returns
  have hts := atoms_spec (ws := w_Chart_findSingles) B.pre
  have hown : s.vm.findClass "SyntaxTrees$Chart" = some m.cls := findClass_of_methodNamed B.named
  have hlocks := B.notSynchronized
  subst hsz
  have hD := hD0.self (sz := s.heap.size)
  generalize hAe : va_A [(a_S, .inr (0, [.ref a_S_types, .ref a_S_ranks, .ref a_S_typeRanks, .int S_size, .int S_sorts])), (a_S_types, .inl (cI, 1000, .inl S_types)), (a_S_ranks, .inl (cI, 1000, .inl S_ranks)), (a_R, .inr (1, [.ref a_S, .ref a_R_sorts, .ref a_R_all, .ref a_R_firsts, .ref a_R_newestWraps, .ref a_R_olderWraps, .int R_closed, .int R_used, .int R_isOpen])), (a_R_sorts, .inl (cI, 1500, .inl R_sorts)), (a_R_all, .inl (cI, 30000, .inl R_all)), (a_R_firsts, .inl (cI, 1501, .inl R_firsts)), (a_C, .inr (3, [.ref a_S, .ref a_R, .ref a_W, .ref a_C_starts, .ref a_C_severalStarts, .ref a_C_ends, .ref a_C_severalEnds, .ref a_C_reach, .ref a_C_severalReach, .ref a_C_found, .ref a_C_queue, .int C_queued, .int C_usable])), (a_C_found, .inl (cI, 100, .inl C_found)), (a_C_queue, .inl (cI, 200, .inl C_queue))] s.heap.size = A at hD ⊢
  have hA : ∀ q : Nat, s.heap.size ≤ q → A q := fun q h => by rw [← hAe]; exact Or.inr h
  have hS : va_S A s.heap s.heap [] := va_S.rf
  have hP : va_P (dC, dI) vwCl [(a_S, .inr (0, [.ref a_S_types, .ref a_S_ranks, .ref a_S_typeRanks, .int S_size, .int S_sorts])), (a_S_types, .inl (cI, 1000, .inl S_types)), (a_S_ranks, .inl (cI, 1000, .inl S_ranks)), (a_R, .inr (1, [.ref a_S, .ref a_R_sorts, .ref a_R_all, .ref a_R_firsts, .ref a_R_newestWraps, .ref a_R_olderWraps, .int R_closed, .int R_used, .int R_isOpen])), (a_R_sorts, .inl (cI, 1500, .inl R_sorts)), (a_R_all, .inl (cI, 30000, .inl R_all)), (a_R_firsts, .inl (cI, 1501, .inl R_firsts)), (a_C, .inr (3, [.ref a_S, .ref a_R, .ref a_W, .ref a_C_starts, .ref a_C_severalStarts, .ref a_C_ends, .ref a_C_severalEnds, .ref a_C_reach, .ref a_C_severalReach, .ref a_C_found, .ref a_C_queue, .int C_queued, .int C_usable])), (a_C_found, .inl (cI, 100, .inl C_found)), (a_C_queue, .inl (cI, 200, .inl C_queue))] s.heap := hP
  have hl := lv_entry ([.ref a_C, .int p1]) (n := 3) (Nat.le_of_ble_eq_true rfl)
  rw [lg_entry_eq]
  generalize (lg_sl ([.ref a_C, .int p1]) ++ List.replicate (3 - (lg_sl ([.ref a_C, .int p1])).length) Slot.unset).toArray = ls at hl ⊢
  have hl : lv_has ls 3 [(0, .ref a_C), (1, .int p1)] := hl
  refine x_Q (fun Q hQ => ?_)
  unfold f_Chart_findSingles at hf
  refine lv_aload_n hx hb d_Chart_findSingles_0 rfl (lv_at hl 0 rfl) ?_
  refine va_get (D := (dC, dI)) (ci := 3) (v := .ref a_S) (C := "SyntaxTrees$Chart") (T := F_Chart) (N := 13) hx hb hts (fun w h => List.mem_cons_of_mem _ (in_Chart w h)) hown hK.1 hP 7 rfl rfl 0 (by decide +kernel) (hts _ (List.mem_cons_of_mem _ m_113)) (fun _ h9 => h9) rfl d_Chart_findSingles_1 ?_
  refine lv_iload_n hx hb d_Chart_findSingles_4 rfl (lv_at hl 1 rfl) ?_
  obtain ⟨x1, hx1, hf⟩ := x_bd hf
  refine x_rdiV (As := [.int p1]) (rest := []) (wc := [(a_S, .inr (0, [.ref a_S_types, .ref a_S_ranks, .ref a_S_typeRanks, .int S_size, .int S_sorts])), (a_S_types, .inl (cI, 1000, .inl S_types))]) ⟨hx, hb, hml, hown, hts⟩ (c_Symbols_isVariable l dC dI cI cJ cB a_S a_S_types a_S_ranks a_S_typeRanks S_size S_sorts S_types p1 n x1 hx1) (cwV 1 hts (x_gV m_331 m_240 m_241 m_43 m_242) rfl rfl rfl hd_Symbols_isVariable ⟨Nat.le_of_ble_eq_true rfl, Nat.le_of_ble_eq_true rfl⟩) hK hP [0, 1] rfl (ci := 0) (q0 := 0) rfl rfl rfl rfl hl.1 rfl (Nat.le_of_ble_eq_true rfl) d_Chart_findSingles_5 ⟨Nat.le_of_ble_eq_true rfl, Nat.le_of_ble_eq_true rfl⟩ ?_
  refine lv_if_eq (tgt := 25) hx hb d_Chart_findSingles_8 (by decide +kernel) (fun c2 => ?_) (fun c2 => ?_)
  · have hf := x_pos c2 hf
    refine lv_iconst (v := (0 : Int32)) hx hb d_Chart_findSingles_25 (by decide +kernel) ?_
    refine lv_istore_n (lv' := [(2, .int (0 : Int32)), (0, .ref a_C), (1, .int p1)]) hx hb d_Chart_findSingles_26 rfl hl (by decide +kernel) rfl (fun ls hl => ?_)
    obtain ⟨x3, hx3, hf⟩ := x_bd hf
    refine w_Chart_findSingles_L27 n p1 S_size S_sorts S_types S_ranks R_closed R_used R_isOpen R_sorts R_all R_firsts C_usable hx hb hml hown hts hK hA n (0 : Int32) C_queued C_found C_queue x3 _ _ ls hx3 hP hD hS (lv_sub hl [0, 1, 2] rfl) (fun H locs ls hP hD hS hl => ?_)
    cases hf
    subst hQ
    exact W.vret hx hb hr (fun t ht _ => ⟨⟨(), rfl, trivial, by rw [ht]; exact hP, hD⟩, hS.F ht⟩) hS.2.2 d_Chart_findSingles_85
  · have hf := x_neg c2 hf
    refine lv_aload_n hx hb d_Chart_findSingles_11 rfl (lv_at hl 0 rfl) ?_
    refine lv_aload_n hx hb d_Chart_findSingles_12 rfl (lv_at hl 0 rfl) ?_
    refine va_get (D := (dC, dI)) (ci := 3) (v := .ref a_S) (C := "SyntaxTrees$Chart") (T := F_Chart) (N := 13) hx hb hts (fun w h => List.mem_cons_of_mem _ (in_Chart w h)) hown hK.1 hP 7 rfl rfl 0 (by decide +kernel) (hts _ (List.mem_cons_of_mem _ m_113)) (fun _ h9 => h9) rfl d_Chart_findSingles_13 ?_
    refine lv_iload_n hx hb d_Chart_findSingles_16 rfl (lv_at hl 1 rfl) ?_
    obtain ⟨x4, hx4, hf⟩ := x_bd hf
    refine x_rdiV (As := [.int p1]) (rest := [.ref a_C]) (wc := [(a_S, .inr (0, [.ref a_S_types, .ref a_S_ranks, .ref a_S_typeRanks, .int S_size, .int S_sorts])), (a_S_types, .inl (cI, 1000, .inl S_types))]) ⟨hx, hb, hml, hown, hts⟩ (c_Symbols_typeOf l dC dI cI cJ cB a_S a_S_types a_S_ranks a_S_typeRanks S_size S_sorts S_types p1 n x4 hx4) (cwV 1 hts (x_gV m_332 m_333 m_334 m_43 m_335) rfl rfl rfl hd_Symbols_typeOf ⟨Nat.le_of_ble_eq_true rfl, Nat.le_of_ble_eq_true rfl⟩) hK hP [0, 1] rfl (ci := 0) (q0 := 0) rfl rfl rfl rfl hl.1 rfl (Nat.le_of_ble_eq_true rfl) d_Chart_findSingles_17 ⟨Nat.le_of_ble_eq_true rfl, Nat.le_of_ble_eq_true rfl⟩ ?_
    refine lv_iconst (v := (1 : Int32)) hx hb d_Chart_findSingles_20 (by decide +kernel) ?_
    obtain ⟨x5, hx5, hf⟩ := x_bd hf
    refine x_wrvV (As := [.int x4, .int (1 : Int32)]) (rest := []) (wc := [(a_S, .inr (0, [.ref a_S_types, .ref a_S_ranks, .ref a_S_typeRanks, .int S_size, .int S_sorts])), (a_S_ranks, .inl (cI, 1000, .inl S_ranks)), (a_C, .inr (3, [.ref a_S, .ref a_R, .ref a_W, .ref a_C_starts, .ref a_C_severalStarts, .ref a_C_ends, .ref a_C_severalEnds, .ref a_C_reach, .ref a_C_severalReach, .ref a_C_found, .ref a_C_queue, .int C_queued, .int C_usable])), (a_C_found, .inl (cI, 100, .inl C_found)), (a_C_queue, .inl (cI, 200, .inl C_queue))]) (wr := [(a_S_types, .inl (cI, 1000, .inl S_types)), (a_R, .inr (1, [.ref a_S, .ref a_R_sorts, .ref a_R_all, .ref a_R_firsts, .ref a_R_newestWraps, .ref a_R_olderWraps, .int R_closed, .int R_used, .int R_isOpen])), (a_R_sorts, .inl (cI, 1500, .inl R_sorts)), (a_R_all, .inl (cI, 30000, .inl R_all)), (a_R_firsts, .inl (cI, 1501, .inl R_firsts))]) (w1 := [(a_S, .inr (0, [.ref a_S_types, .ref a_S_ranks, .ref a_S_typeRanks, .int S_size, .int S_sorts])), (a_S_ranks, .inl (cI, 1000, .inl S_ranks)), (a_C, .inr (3, [.ref a_S, .ref a_R, .ref a_W, .ref a_C_starts, .ref a_C_severalStarts, .ref a_C_ends, .ref a_C_severalEnds, .ref a_C_reach, .ref a_C_severalReach, .ref a_C_found, .ref a_C_queue, .int x5.1, .int C_usable])), (a_C_found, .inl (cI, 100, .inl x5.2.1)), (a_C_queue, .inl (cI, 200, .inl x5.2.2))]) (wf := [(a_S, .inr (0, [.ref a_S_types, .ref a_S_ranks, .ref a_S_typeRanks, .int S_size, .int S_sorts])), (a_S_types, .inl (cI, 1000, .inl S_types)), (a_S_ranks, .inl (cI, 1000, .inl S_ranks)), (a_R, .inr (1, [.ref a_S, .ref a_R_sorts, .ref a_R_all, .ref a_R_firsts, .ref a_R_newestWraps, .ref a_R_olderWraps, .int R_closed, .int R_used, .int R_isOpen])), (a_R_sorts, .inl (cI, 1500, .inl R_sorts)), (a_R_all, .inl (cI, 30000, .inl R_all)), (a_R_firsts, .inl (cI, 1501, .inl R_firsts)), (a_C, .inr (3, [.ref a_S, .ref a_R, .ref a_W, .ref a_C_starts, .ref a_C_severalStarts, .ref a_C_ends, .ref a_C_severalEnds, .ref a_C_reach, .ref a_C_severalReach, .ref a_C_found, .ref a_C_queue, .int x5.1, .int C_usable])), (a_C_found, .inl (cI, 100, .inl x5.2.1)), (a_C_queue, .inl (cI, 200, .inl x5.2.2))]) ⟨hx, hb, hml, hown, hts⟩ (c_Chart_addTrees l dC dI cI cJ cB a_S a_S_types a_S_ranks a_S_typeRanks a_C a_R a_W a_C_starts a_C_severalStarts a_C_ends a_C_severalEnds a_C_reach a_C_severalReach a_C_found a_C_queue S_size S_sorts S_ranks C_queued C_usable C_found C_queue x4 (1 : Int32) s.heap.size n x5 hx5) (cwV 2 hts (x_gV m_336 m_337 m_8 m_46 m_338) rfl rfl rfl hd_Chart_addTrees ⟨Nat.le_of_ble_eq_true rfl, Nat.le_of_ble_eq_true rfl⟩) hK hP hD hS hA [0, 2, 7, 8, 9] [1, 3, 4, 5, 6] [5, 0, 6, 1, 2, 3, 4, 7, 8, 9] rfl rfl rfl (by decide +kernel) (by decide +kernel) (by decide +kernel) (by decide +kernel) (ci := 3) (q0 := 2) rfl rfl rfl rfl hl.1 rfl (Nat.le_of_ble_eq_true rfl) d_Chart_findSingles_21 ⟨Nat.le_of_ble_eq_true rfl, Nat.le_of_ble_eq_true rfl⟩ (fun H locs hP hD hS => ?_)
    cases hf
    subst hQ
    exact W.vret hx hb hr (fun t ht _ => ⟨⟨(), rfl, trivial, by rw [ht]; exact hP, hD⟩, hS.F ht⟩) hS.2.2 d_Chart_findSingles_24
set_option maxHeartbeats 4000000 in
set_option maxRecDepth 100000 in
theorem c_Chart_waysBetween (l : Launch) (dC : Nat → ClassId) (dI : Nat → Nat → Nat) (cI cJ cB : ClassId) (a_S a_S_types a_S_ranks a_S_typeRanks a_W a_W_row a_C a_R a_C_starts a_C_severalStarts a_C_ends a_C_severalEnds a_C_reach a_C_severalReach a_C_found a_C_queue : Nat)  (S_size : Int32) (S_sorts : Int32) (S_typeRanks : Nat → Int32) (W_length : Int32) (W_row : Nat → Int32) (C_queued : Int32) (C_usable : Int32) (C_starts : Nat → Int64) (C_severalStarts : Nat → Int64) (p1 : Int64) (p2 : Int64) (p3 : Int32) (p4 : Int32) (n : Nat) (o : Int32) (hf : f_Chart_waysBetween n S_size S_typeRanks W_length W_row C_starts C_severalStarts p1 p2 p3 p4 = some o) : Met l y_Chart_waysBetween w_Chart_waysBetween ({ frames := 3, cells := 0, slots := 0, locals := 66 }) (va_Pc [.ref a_C, .long p1, .long p2, .int p3, .int p4] (fun U => va_P (dC, dI) vwCl [(a_S, .inr (0, [.ref a_S_types, .ref a_S_ranks, .ref a_S_typeRanks, .int S_size, .int S_sorts])), (a_S_typeRanks, .inl (cI, 1000, .inl S_typeRanks)), (a_W, .inr (2, [.ref a_W_row, .int W_length])), (a_W_row, .inl (cI, 59, .inl W_row)), (a_C, .inr (3, [.ref a_S, .ref a_R, .ref a_W, .ref a_C_starts, .ref a_C_severalStarts, .ref a_C_ends, .ref a_C_severalEnds, .ref a_C_reach, .ref a_C_severalReach, .ref a_C_found, .ref a_C_queue, .int C_queued, .int C_usable])), (a_C_starts, .inl (cJ, 6000, .inr (.inl C_starts))), (a_C_severalStarts, .inl (cJ, 6000, .inr (.inl C_severalStarts)))] U.heap ∧ x_K (dC, dI) [(cI, .int), (cJ, .long), (cB, .byte)] U)) (QcRead o) 0 0 (fun _ => False) := by
  refine Met.ofW (cc := b_Chart_waysBetween) (maxL := 12) (ret := (some .int)) (by decide +kernel) rfl ?_
  intro p e s m args below meth c s₁ B hml hv
  obtain ⟨rfl, hP, hK⟩ := hv
  have hx := B.exec
  have hb := B.bytes
  have hr := B.returns
  have hts := atoms_spec (ws := w_Chart_waysBetween) B.pre
  have hown : s.vm.findClass "SyntaxTrees$Chart" = some m.cls := findClass_of_methodNamed B.named
  have hlocks := B.notSynchronized
  have hP : va_P (dC, dI) vwCl [(a_S, .inr (0, [.ref a_S_types, .ref a_S_ranks, .ref a_S_typeRanks, .int S_size, .int S_sorts])), (a_S_typeRanks, .inl (cI, 1000, .inl S_typeRanks)), (a_W, .inr (2, [.ref a_W_row, .int W_length])), (a_W_row, .inl (cI, 59, .inl W_row)), (a_C, .inr (3, [.ref a_S, .ref a_R, .ref a_W, .ref a_C_starts, .ref a_C_severalStarts, .ref a_C_ends, .ref a_C_severalEnds, .ref a_C_reach, .ref a_C_severalReach, .ref a_C_found, .ref a_C_queue, .int C_queued, .int C_usable])), (a_C_starts, .inl (cJ, 6000, .inr (.inl C_starts))), (a_C_severalStarts, .inl (cJ, 6000, .inr (.inl C_severalStarts)))] s.heap := hP
  have hl := lv_entry ([.ref a_C, .long p1, .long p2, .int p3, .int p4]) (n := 12) (Nat.le_of_ble_eq_true rfl)
  rw [lg_entry_eq]
  generalize (lg_sl ([.ref a_C, .long p1, .long p2, .int p3, .int p4]) ++ List.replicate (12 - (lg_sl ([.ref a_C, .long p1, .long p2, .int p3, .int p4])).length) Slot.unset).toArray = ls at hl ⊢
  have hl : lv_has ls 12 [(0, .ref a_C), (1, .long p1), (3, .long p2), (5, .int p3), (6, .int p4)] := hl
  refine x_Q (fun Q hQ => ?_)
  unfold f_Chart_waysBetween at hf
  refine lv_lload_n hx hb d_Chart_waysBetween_0 rfl (lv_at hl 1 rfl) ?_
  refine lv_aload_n hx hb d_Chart_waysBetween_1 rfl (lv_at hl 0 rfl) ?_
  refine lv_iload hx hb d_Chart_waysBetween_2 (lv_at hl 3 rfl) ?_
  refine lv_iload hx hb d_Chart_waysBetween_4 (lv_at hl 4 rfl) ?_
  obtain ⟨x1, hx1, hf⟩ := x_bd hf
  refine x_rdlV (As := [.int p3, .int p4]) (rest := [.long p1]) (wc := [(a_S, .inr (0, [.ref a_S_types, .ref a_S_ranks, .ref a_S_typeRanks, .int S_size, .int S_sorts])), (a_S_typeRanks, .inl (cI, 1000, .inl S_typeRanks)), (a_W, .inr (2, [.ref a_W_row, .int W_length])), (a_W_row, .inl (cI, 59, .inl W_row)), (a_C, .inr (3, [.ref a_S, .ref a_R, .ref a_W, .ref a_C_starts, .ref a_C_severalStarts, .ref a_C_ends, .ref a_C_severalEnds, .ref a_C_reach, .ref a_C_severalReach, .ref a_C_found, .ref a_C_queue, .int C_queued, .int C_usable])), (a_C_starts, .inl (cJ, 6000, .inr (.inl C_starts)))]) ⟨hx, hb, hml, hown, hts⟩ (c_Chart_startsOf l dC dI cI cJ cB a_S a_S_types a_S_ranks a_S_typeRanks a_W a_W_row a_C a_R a_C_starts a_C_severalStarts a_C_ends a_C_severalEnds a_C_reach a_C_severalReach a_C_found a_C_queue S_size S_sorts S_typeRanks W_length W_row C_queued C_usable C_starts p3 p4 n x1 hx1) (cwV 2 hts (x_gV m_371 m_372 m_373 m_46 m_374) rfl rfl rfl hd_Chart_startsOf ⟨Nat.le_of_ble_eq_true rfl, Nat.le_of_ble_eq_true rfl⟩) hK hP [0, 1, 2, 3, 4, 5] rfl (ci := 3) (q0 := 4) rfl rfl rfl rfl hl.1 rfl (Nat.le_of_ble_eq_true rfl) d_Chart_waysBetween_6 ⟨Nat.le_of_ble_eq_true rfl, Nat.le_of_ble_eq_true rfl⟩ ?_
  refine lv_land hx hb d_Chart_waysBetween_9 ?_
  refine lv_lstore (lv' := [(7, .long (p1 &&& x1)), (0, .ref a_C), (1, .long p1), (3, .long p2), (5, .int p3), (6, .int p4)]) hx hb d_Chart_waysBetween_10 hl (by decide +kernel) rfl (fun ls hl => ?_)
  refine lv_lload hx hb d_Chart_waysBetween_12 (lv_at hl 0 rfl) ?_
  refine lv_lconst (v := (0 : Int64)) hx hb d_Chart_waysBetween_14 (by decide +kernel) ?_
  refine W.lcmp hx hb d_Chart_waysBetween_15 ?_
  refine lv_if_ne (tgt := 21) hx hb d_Chart_waysBetween_16 (by decide +kernel) (fun c2 => ?_) (fun c2 => ?_)
  · have hf := x_neg c2 hf
    refine lv_lload hx hb d_Chart_waysBetween_21 (lv_at hl 0 rfl) ?_
    refine lv_lload hx hb d_Chart_waysBetween_23 (lv_at hl 0 rfl) ?_
    refine lv_lconst (v := (1 : Int64)) hx hb d_Chart_waysBetween_25 (by decide +kernel) ?_
    refine lv_lsub hx hb d_Chart_waysBetween_26 ?_
    refine lv_land hx hb d_Chart_waysBetween_27 ?_
    refine lv_lconst (v := (0 : Int64)) hx hb d_Chart_waysBetween_28 (by decide +kernel) ?_
    refine W.lcmp hx hb d_Chart_waysBetween_29 ?_
    refine lv_if_ne (tgt := 37) hx hb d_Chart_waysBetween_30 (by decide +kernel) (fun c3 => ?_) (fun c3 => ?_)
    · have hf := x_neg c3 hf
      refine lv_iconst (v := (0 : Int32)) hx hb d_Chart_waysBetween_37 (by decide +kernel) ?_
      refine lv_istore (lv' := [(9, .int (0 : Int32)), (7, .long (p1 &&& x1)), (0, .ref a_C), (1, .long p1), (3, .long p2), (5, .int p3), (6, .int p4)]) hx hb d_Chart_waysBetween_38 hl (by decide +kernel) rfl (fun ls hl => ?_)
      refine lv_lload_n hx hb d_Chart_waysBetween_40 rfl (lv_at hl 4 rfl) ?_
      refine lv_aload_n hx hb d_Chart_waysBetween_41 rfl (lv_at hl 2 rfl) ?_
      refine lv_iload hx hb d_Chart_waysBetween_42 (lv_at hl 5 rfl) ?_
      refine lv_iload hx hb d_Chart_waysBetween_44 (lv_at hl 6 rfl) ?_
      obtain ⟨x4, hx4, hf⟩ := x_bd hf
      refine x_rdlV (As := [.int p3, .int p4]) (rest := [.long p2]) (wc := [(a_S, .inr (0, [.ref a_S_types, .ref a_S_ranks, .ref a_S_typeRanks, .int S_size, .int S_sorts])), (a_S_typeRanks, .inl (cI, 1000, .inl S_typeRanks)), (a_C, .inr (3, [.ref a_S, .ref a_R, .ref a_W, .ref a_C_starts, .ref a_C_severalStarts, .ref a_C_ends, .ref a_C_severalEnds, .ref a_C_reach, .ref a_C_severalReach, .ref a_C_found, .ref a_C_queue, .int C_queued, .int C_usable])), (a_C_severalStarts, .inl (cJ, 6000, .inr (.inl C_severalStarts)))]) ⟨hx, hb, hml, hown, hts⟩ (c_Chart_severalStartsOf l dC dI cI cJ cB a_S a_S_types a_S_ranks a_S_typeRanks a_C a_R a_W a_C_starts a_C_severalStarts a_C_ends a_C_severalEnds a_C_reach a_C_severalReach a_C_found a_C_queue S_size S_sorts S_typeRanks C_queued C_usable C_severalStarts p3 p4 n x4 hx4) (cwV 2 hts (x_gV m_375 m_376 m_13 m_46 m_377) rfl rfl rfl hd_Chart_severalStartsOf ⟨Nat.le_of_ble_eq_true rfl, Nat.le_of_ble_eq_true rfl⟩) hK hP [0, 1, 4, 6] rfl (ci := 3) (q0 := 2) rfl rfl rfl rfl hl.1 rfl (Nat.le_of_ble_eq_true rfl) d_Chart_waysBetween_46 ⟨Nat.le_of_ble_eq_true rfl, Nat.le_of_ble_eq_true rfl⟩ ?_
      refine lv_lor hx hb d_Chart_waysBetween_49 ?_
      refine lv_lstore (lv' := [(10, .long (p2 ||| x4)), (9, .int (0 : Int32)), (7, .long (p1 &&& x1)), (0, .ref a_C), (1, .long p1), (3, .long p2), (5, .int p3), (6, .int p4)]) hx hb d_Chart_waysBetween_50 hl (by decide +kernel) rfl (fun ls hl => ?_)
      refine lv_iload hx hb d_Chart_waysBetween_52 (lv_at hl 1 rfl) ?_
      refine lv_if_eq (tgt := 71) hx hb d_Chart_waysBetween_54 (by decide +kernel) (fun c5 => ?_) (fun c5 => ?_)
      · have hf := x_pos c5 hf
        refine lv_iconst (v := (2 : Int32)) hx hb d_Chart_waysBetween_71 (by decide +kernel) ?_
        cases hf
        subst hQ
        exact W.iret hx hb hr (fun t ht _ => ⟨rfl, ht⟩) (fun _ h => absurd h List.not_mem_nil) d_Chart_waysBetween_72
      · have hf := x_neg c5 hf
        refine lv_lload hx hb d_Chart_waysBetween_57 (lv_at hl 2 rfl) ?_
        refine lv_lload hx hb d_Chart_waysBetween_59 (lv_at hl 0 rfl) ?_
        refine lv_land hx hb d_Chart_waysBetween_61 ?_
        refine lv_lconst (v := (0 : Int64)) hx hb d_Chart_waysBetween_62 (by decide +kernel) ?_
        refine W.lcmp hx hb d_Chart_waysBetween_63 ?_
        refine lv_if_ne (tgt := 71) hx hb d_Chart_waysBetween_64 (by decide +kernel) (fun c6 => ?_) (fun c6 => ?_)
        · have hf := x_neg c6 hf
          refine lv_iconst (v := (2 : Int32)) hx hb d_Chart_waysBetween_71 (by decide +kernel) ?_
          cases hf
          subst hQ
          exact W.iret hx hb hr (fun t ht _ => ⟨rfl, ht⟩) (fun _ h => absurd h List.not_mem_nil) d_Chart_waysBetween_72
        · have hf := x_pos c6 hf
          refine lv_iconst (v := (1 : Int32)) hx hb d_Chart_waysBetween_67 (by decide +kernel) ?_
          refine lv_goto (tgt := 72) hx hb d_Chart_waysBetween_68 (by decide +kernel) ?_
          cases hf
          subst hQ
          exact W.iret hx hb hr (fun t ht _ => ⟨rfl, ht⟩) (fun _ h => absurd h List.not_mem_nil) d_Chart_waysBetween_72
    · have hf := x_pos c3 hf
      refine lv_iconst (v := (1 : Int32)) hx hb d_Chart_waysBetween_33 (by decide +kernel) ?_
      refine lv_goto (tgt := 38) hx hb d_Chart_waysBetween_34 (by decide +kernel) ?_
      refine lv_istore (lv' := [(9, .int (1 : Int32)), (7, .long (p1 &&& x1)), (0, .ref a_C), (1, .long p1), (3, .long p2), (5, .int p3), (6, .int p4)]) hx hb d_Chart_waysBetween_38 hl (by decide +kernel) rfl (fun ls hl => ?_)
      refine lv_lload_n hx hb d_Chart_waysBetween_40 rfl (lv_at hl 4 rfl) ?_
      refine lv_aload_n hx hb d_Chart_waysBetween_41 rfl (lv_at hl 2 rfl) ?_
      refine lv_iload hx hb d_Chart_waysBetween_42 (lv_at hl 5 rfl) ?_
      refine lv_iload hx hb d_Chart_waysBetween_44 (lv_at hl 6 rfl) ?_
      obtain ⟨x7, hx7, hf⟩ := x_bd hf
      refine x_rdlV (As := [.int p3, .int p4]) (rest := [.long p2]) (wc := [(a_S, .inr (0, [.ref a_S_types, .ref a_S_ranks, .ref a_S_typeRanks, .int S_size, .int S_sorts])), (a_S_typeRanks, .inl (cI, 1000, .inl S_typeRanks)), (a_C, .inr (3, [.ref a_S, .ref a_R, .ref a_W, .ref a_C_starts, .ref a_C_severalStarts, .ref a_C_ends, .ref a_C_severalEnds, .ref a_C_reach, .ref a_C_severalReach, .ref a_C_found, .ref a_C_queue, .int C_queued, .int C_usable])), (a_C_severalStarts, .inl (cJ, 6000, .inr (.inl C_severalStarts)))]) ⟨hx, hb, hml, hown, hts⟩ (c_Chart_severalStartsOf l dC dI cI cJ cB a_S a_S_types a_S_ranks a_S_typeRanks a_C a_R a_W a_C_starts a_C_severalStarts a_C_ends a_C_severalEnds a_C_reach a_C_severalReach a_C_found a_C_queue S_size S_sorts S_typeRanks C_queued C_usable C_severalStarts p3 p4 n x7 hx7) (cwV 2 hts (x_gV m_375 m_376 m_13 m_46 m_377) rfl rfl rfl hd_Chart_severalStartsOf ⟨Nat.le_of_ble_eq_true rfl, Nat.le_of_ble_eq_true rfl⟩) hK hP [0, 1, 4, 6] rfl (ci := 3) (q0 := 2) rfl rfl rfl rfl hl.1 rfl (Nat.le_of_ble_eq_true rfl) d_Chart_waysBetween_46 ⟨Nat.le_of_ble_eq_true rfl, Nat.le_of_ble_eq_true rfl⟩ ?_
      refine lv_lor hx hb d_Chart_waysBetween_49 ?_
      refine lv_lstore (lv' := [(10, .long (p2 ||| x7)), (9, .int (1 : Int32)), (7, .long (p1 &&& x1)), (0, .ref a_C), (1, .long p1), (3, .long p2), (5, .int p3), (6, .int p4)]) hx hb d_Chart_waysBetween_50 hl (by decide +kernel) rfl (fun ls hl => ?_)
      refine lv_iload hx hb d_Chart_waysBetween_52 (lv_at hl 1 rfl) ?_
      refine lv_if_eq (tgt := 71) hx hb d_Chart_waysBetween_54 (by decide +kernel) (fun c8 => ?_) (fun c8 => ?_)
      · have hf := x_pos c8 hf
        refine lv_iconst (v := (2 : Int32)) hx hb d_Chart_waysBetween_71 (by decide +kernel) ?_
        cases hf
        subst hQ
        exact W.iret hx hb hr (fun t ht _ => ⟨rfl, ht⟩) (fun _ h => absurd h List.not_mem_nil) d_Chart_waysBetween_72
      · have hf := x_neg c8 hf
        refine lv_lload hx hb d_Chart_waysBetween_57 (lv_at hl 2 rfl) ?_
        refine lv_lload hx hb d_Chart_waysBetween_59 (lv_at hl 0 rfl) ?_
        refine lv_land hx hb d_Chart_waysBetween_61 ?_
        refine lv_lconst (v := (0 : Int64)) hx hb d_Chart_waysBetween_62 (by decide +kernel) ?_
        refine W.lcmp hx hb d_Chart_waysBetween_63 ?_
        refine lv_if_ne (tgt := 71) hx hb d_Chart_waysBetween_64 (by decide +kernel) (fun c9 => ?_) (fun c9 => ?_)
        · have hf := x_neg c9 hf
          refine lv_iconst (v := (2 : Int32)) hx hb d_Chart_waysBetween_71 (by decide +kernel) ?_
          cases hf
          subst hQ
          exact W.iret hx hb hr (fun t ht _ => ⟨rfl, ht⟩) (fun _ h => absurd h List.not_mem_nil) d_Chart_waysBetween_72
        · have hf := x_pos c9 hf
          refine lv_iconst (v := (1 : Int32)) hx hb d_Chart_waysBetween_67 (by decide +kernel) ?_
          refine lv_goto (tgt := 72) hx hb d_Chart_waysBetween_68 (by decide +kernel) ?_
          cases hf
          subst hQ
          exact W.iret hx hb hr (fun t ht _ => ⟨rfl, ht⟩) (fun _ h => absurd h List.not_mem_nil) d_Chart_waysBetween_72
  · have hf := x_pos c2 hf
    refine lv_iconst (v := (0 : Int32)) hx hb d_Chart_waysBetween_19 (by decide +kernel) ?_
    cases hf
    subst hQ
    exact W.iret hx hb hr (fun t ht _ => ⟨rfl, ht⟩) (fun _ h => absurd h List.not_mem_nil) d_Chart_waysBetween_20
set_option maxHeartbeats 4000000 in
set_option maxRecDepth 100000 in
theorem w_Chart_waysToEnd_L60 {p : Program} {l : Launch} {e : Env} {s : State} {m : MethodId} {args : Array Value} {below : List Frame} {meth : Method} {c : Code} {dC : Nat → ClassId} {dI : Nat → Nat → Nat} {cI cJ cB : ClassId} {a_S a_S_types a_S_ranks a_S_typeRanks a_R a_R_sorts a_R_all a_R_firsts a_R_newestWraps a_R_olderWraps a_W a_W_row a_C a_C_starts a_C_severalStarts a_C_ends a_C_severalEnds a_C_reach a_C_severalReach a_C_found a_C_queue : Nat} {A : Nat → Prop} {Q : State → Prop} (n : Nat) (v5 : Int32) (v3 : Int32) (S_size : Int32) (S_sorts : Int32) (S_typeRanks : Nat → Int32) (R_closed : Int32) (R_used : Int32) (R_isOpen : Int32) (R_all : Nat → Int32) (R_firsts : Nat → Int32) (W_length : Int32) (W_row : Nat → Int32) (C_queued : Int32) (C_usable : Int32) (C_starts : Nat → Int64) (C_severalStarts : Nat → Int64) (C_ends : Nat → Int64) (C_severalEnds : Nat → Int64) (hx : p.tables.exec = Jvm.exec) (hb : c.code = b_Chart_waysToEnd) (hml : c.maxLocals = 13) (hown : s.vm.findClass "SyntaxTrees$Chart" = some m.cls) (hts : ∀ w ∈ w_Chart_waysToEnd, w.before args s = true) (hK : x_K (dC, dI) [(cI, .int), (cJ, .long), (cB, .byte)] s) (hA : ∀ q, s.heap.size ≤ q → A q) : ∀ (k : Nat) (v12 : Int32) (v11 : Int32) (v9 : Int64) (v7 : Int64) (C_reach : Nat → Int64) (C_severalReach : Nat → Int64) (o : Int32 × Int32 × Int64 × Int64 × (Nat → Int64) × (Nat → Int64)) (H : Heap) (locs : List Loc) (ls : Array Slot), f_Chart_waysToEnd_L60 n v5 v3 S_size S_typeRanks R_used R_all W_length W_row C_starts C_severalStarts k v12 v11 v9 v7 C_reach C_severalReach = some o → va_P (dC, dI) vwCl [(a_S, .inr (0, [.ref a_S_types, .ref a_S_ranks, .ref a_S_typeRanks, .int S_size, .int S_sorts])), (a_S_typeRanks, .inl (cI, 1000, .inl S_typeRanks)), (a_R, .inr (1, [.ref a_S, .ref a_R_sorts, .ref a_R_all, .ref a_R_firsts, .ref a_R_newestWraps, .ref a_R_olderWraps, .int R_closed, .int R_used, .int R_isOpen])), (a_R_all, .inl (cI, 30000, .inl R_all)), (a_R_firsts, .inl (cI, 1501, .inl R_firsts)), (a_W, .inr (2, [.ref a_W_row, .int W_length])), (a_W_row, .inl (cI, 59, .inl W_row)), (a_C, .inr (3, [.ref a_S, .ref a_R, .ref a_W, .ref a_C_starts, .ref a_C_severalStarts, .ref a_C_ends, .ref a_C_severalEnds, .ref a_C_reach, .ref a_C_severalReach, .ref a_C_found, .ref a_C_queue, .int C_queued, .int C_usable])), (a_C_starts, .inl (cJ, 6000, .inr (.inl C_starts))), (a_C_severalStarts, .inl (cJ, 6000, .inr (.inl C_severalStarts))), (a_C_ends, .inl (cJ, 100, .inr (.inl C_ends))), (a_C_severalEnds, .inl (cJ, 100, .inr (.inl C_severalEnds))), (a_C_reach, .inl (cJ, 30000, .inr (.inl C_reach))), (a_C_severalReach, .inl (cJ, 30000, .inr (.inl C_severalReach)))] H → va_D A [(a_S, .inr (0, [.ref a_S_types, .ref a_S_ranks, .ref a_S_typeRanks, .int S_size, .int S_sorts])), (a_S_typeRanks, .inl (cI, 1000, .inl S_typeRanks)), (a_R, .inr (1, [.ref a_S, .ref a_R_sorts, .ref a_R_all, .ref a_R_firsts, .ref a_R_newestWraps, .ref a_R_olderWraps, .int R_closed, .int R_used, .int R_isOpen])), (a_R_all, .inl (cI, 30000, .inl R_all)), (a_R_firsts, .inl (cI, 1501, .inl R_firsts)), (a_W, .inr (2, [.ref a_W_row, .int W_length])), (a_W_row, .inl (cI, 59, .inl W_row)), (a_C, .inr (3, [.ref a_S, .ref a_R, .ref a_W, .ref a_C_starts, .ref a_C_severalStarts, .ref a_C_ends, .ref a_C_severalEnds, .ref a_C_reach, .ref a_C_severalReach, .ref a_C_found, .ref a_C_queue, .int C_queued, .int C_usable])), (a_C_starts, .inl (cJ, 6000, .inr (.inl C_starts))), (a_C_severalStarts, .inl (cJ, 6000, .inr (.inl C_severalStarts))), (a_C_ends, .inl (cJ, 100, .inr (.inl C_ends))), (a_C_severalEnds, .inl (cJ, 100, .inr (.inl C_severalEnds))), (a_C_reach, .inl (cJ, 30000, .inr (.inl C_reach))), (a_C_severalReach, .inl (cJ, 30000, .inr (.inl C_severalReach)))] → va_S A s.heap H locs → lv_has ls 13 [(12, .int v12), (11, .int v11), (9, .long v9), (7, .long v7), (5, .int v5), (0, .ref a_C), (3, .int v3)] → (∀ (H : Heap) (locs : List Loc) (ls : Array Slot), va_P (dC, dI) vwCl [(a_S, .inr (0, [.ref a_S_types, .ref a_S_ranks, .ref a_S_typeRanks, .int S_size, .int S_sorts])), (a_S_typeRanks, .inl (cI, 1000, .inl S_typeRanks)), (a_R, .inr (1, [.ref a_S, .ref a_R_sorts, .ref a_R_all, .ref a_R_firsts, .ref a_R_newestWraps, .ref a_R_olderWraps, .int R_closed, .int R_used, .int R_isOpen])), (a_R_all, .inl (cI, 30000, .inl R_all)), (a_R_firsts, .inl (cI, 1501, .inl R_firsts)), (a_W, .inr (2, [.ref a_W_row, .int W_length])), (a_W_row, .inl (cI, 59, .inl W_row)), (a_C, .inr (3, [.ref a_S, .ref a_R, .ref a_W, .ref a_C_starts, .ref a_C_severalStarts, .ref a_C_ends, .ref a_C_severalEnds, .ref a_C_reach, .ref a_C_severalReach, .ref a_C_found, .ref a_C_queue, .int C_queued, .int C_usable])), (a_C_starts, .inl (cJ, 6000, .inr (.inl C_starts))), (a_C_severalStarts, .inl (cJ, 6000, .inr (.inl C_severalStarts))), (a_C_ends, .inl (cJ, 100, .inr (.inl C_ends))), (a_C_severalEnds, .inl (cJ, 100, .inr (.inl C_severalEnds))), (a_C_reach, .inl (cJ, 30000, .inr (.inl o.2.2.2.2.1))), (a_C_severalReach, .inl (cJ, 30000, .inr (.inl o.2.2.2.2.2)))] H → va_D A [(a_S, .inr (0, [.ref a_S_types, .ref a_S_ranks, .ref a_S_typeRanks, .int S_size, .int S_sorts])), (a_S_typeRanks, .inl (cI, 1000, .inl S_typeRanks)), (a_R, .inr (1, [.ref a_S, .ref a_R_sorts, .ref a_R_all, .ref a_R_firsts, .ref a_R_newestWraps, .ref a_R_olderWraps, .int R_closed, .int R_used, .int R_isOpen])), (a_R_all, .inl (cI, 30000, .inl R_all)), (a_R_firsts, .inl (cI, 1501, .inl R_firsts)), (a_W, .inr (2, [.ref a_W_row, .int W_length])), (a_W_row, .inl (cI, 59, .inl W_row)), (a_C, .inr (3, [.ref a_S, .ref a_R, .ref a_W, .ref a_C_starts, .ref a_C_severalStarts, .ref a_C_ends, .ref a_C_severalEnds, .ref a_C_reach, .ref a_C_severalReach, .ref a_C_found, .ref a_C_queue, .int C_queued, .int C_usable])), (a_C_starts, .inl (cJ, 6000, .inr (.inl C_starts))), (a_C_severalStarts, .inl (cJ, 6000, .inr (.inl C_severalStarts))), (a_C_ends, .inl (cJ, 100, .inr (.inl C_ends))), (a_C_severalEnds, .inl (cJ, 100, .inr (.inl C_severalEnds))), (a_C_reach, .inl (cJ, 30000, .inr (.inl o.2.2.2.2.1))), (a_C_severalReach, .inl (cJ, 30000, .inr (.inl o.2.2.2.2.2)))] → va_S A s.heap H locs → lv_has ls 13 [(12, .int o.1), (11, .int o.2.1), (9, .long o.2.2.1), (7, .long o.2.2.2.1), (5, .int v5), (0, .ref a_C), (3, .int v3)] → W p l e ({ frames := 4, cells := 0, slots := 0, locals := 97 }) s m args below meth c H locs 0 0 Q (F0 m 157 ls [])) → W p l e ({ frames := 4, cells := 0, slots := 0, locals := 97 }) s m args below meth c H locs 0 0 Q (F0 m 60 ls []) := by
  intro k
  induction k with
  | zero =>
    intro v12 v11 v9 v7 C_reach C_severalReach o H locs ls hf
    exact absurd hf (by simp [f_Chart_waysToEnd_L60])
  | succ k ih =>
    intro v12 v11 v9 v7 C_reach C_severalReach o H locs ls hf hP hD hS hl kk
    rw [f_Chart_waysToEnd_L60] at hf
    refine lv_iload hx hb d_Chart_waysToEnd_60 (lv_at hl 0 rfl) ?_
    refine lv_iload hx hb d_Chart_waysToEnd_62 (lv_at hl 4 rfl) ?_
    refine lv_icmp_ge (tgt := 157) hx hb d_Chart_waysToEnd_64 (by decide +kernel) (fun c1 => ?_) (fun c1 => ?_)
    · have hf := x_pos c1 hf
      cases hf
      exact kk _ _ ls hP hD hS (lv_sub hl [0, 1, 2, 3, 4, 5, 6] rfl)
    · have hf := x_neg c1 hf
      refine lv_lload hx hb d_Chart_waysToEnd_67 (lv_at hl 3 rfl) ?_
      refine lv_lconst (v := (0 : Int64)) hx hb d_Chart_waysToEnd_69 (by decide +kernel) ?_
      refine W.lcmp hx hb d_Chart_waysToEnd_70 ?_
      refine lv_if_eq (tgt := 157) hx hb d_Chart_waysToEnd_71 (by decide +kernel) (fun c2 => ?_) (fun c2 => ?_)
      · have hf := x_pos c2 hf
        cases hf
        exact kk _ _ ls hP hD hS (lv_sub hl [0, 1, 2, 3, 4, 5, 6] rfl)
      · have hf := x_neg c2 hf
        refine lv_aload_n hx hb d_Chart_waysToEnd_74 rfl (lv_at hl 5 rfl) ?_
        refine lv_lload hx hb d_Chart_waysToEnd_75 (lv_at hl 3 rfl) ?_
        refine lv_lload hx hb d_Chart_waysToEnd_77 (lv_at hl 2 rfl) ?_
        refine lv_aload_n hx hb d_Chart_waysToEnd_79 rfl (lv_at hl 5 rfl) ?_
        refine va_get (D := (dC, dI)) (ci := 3) (v := .ref a_R) (C := "SyntaxTrees$Chart") (T := F_Chart) (N := 13) hx hb hts (fun w h => List.mem_cons_of_mem _ (in_Chart w h)) hown hK.1 hP 7 rfl rfl 1 (by decide +kernel) (hts _ (List.mem_cons_of_mem _ m_114)) (fun _ h9 => h9) rfl d_Chart_waysToEnd_80 ?_
        refine lv_iload hx hb d_Chart_waysToEnd_83 (lv_at hl 0 rfl) ?_
        obtain ⟨x3, hx3, hf⟩ := x_bd hf
        refine x_rdiV (As := [.int v12]) (rest := [.long v9, .long v7, .ref a_C]) (wc := [(a_R, .inr (1, [.ref a_S, .ref a_R_sorts, .ref a_R_all, .ref a_R_firsts, .ref a_R_newestWraps, .ref a_R_olderWraps, .int R_closed, .int R_used, .int R_isOpen])), (a_R_all, .inl (cI, 30000, .inl R_all))]) ⟨hx, hb, hml, hown, hts⟩ (c_Rules_symbolAt l dC dI cI cJ cB a_R a_S a_R_sorts a_R_all a_R_firsts a_R_newestWraps a_R_olderWraps R_closed R_used R_isOpen R_all v12 n x3 hx3) (cwV 1 hts (x_gV m_348 m_349 m_350 m_44 m_351) rfl rfl rfl hd_Rules_symbolAt ⟨Nat.le_of_ble_eq_true rfl, Nat.le_of_ble_eq_true rfl⟩) hK hP [2, 3] rfl (ci := 1) (q0 := 0) rfl rfl rfl rfl hl.1 rfl (Nat.le_of_ble_eq_true rfl) d_Chart_waysToEnd_85 ⟨Nat.le_of_ble_eq_true rfl, Nat.le_of_ble_eq_true rfl⟩ ?_
        refine lv_iload_n hx hb d_Chart_waysToEnd_88 rfl (lv_at hl 6 rfl) ?_
        obtain ⟨x4, hx4, hf⟩ := x_bd hf
        refine x_rdiV (As := [.long v7, .long v9, .int x3, .int v3]) (rest := []) (wc := [(a_S, .inr (0, [.ref a_S_types, .ref a_S_ranks, .ref a_S_typeRanks, .int S_size, .int S_sorts])), (a_S_typeRanks, .inl (cI, 1000, .inl S_typeRanks)), (a_W, .inr (2, [.ref a_W_row, .int W_length])), (a_W_row, .inl (cI, 59, .inl W_row)), (a_C, .inr (3, [.ref a_S, .ref a_R, .ref a_W, .ref a_C_starts, .ref a_C_severalStarts, .ref a_C_ends, .ref a_C_severalEnds, .ref a_C_reach, .ref a_C_severalReach, .ref a_C_found, .ref a_C_queue, .int C_queued, .int C_usable])), (a_C_starts, .inl (cJ, 6000, .inr (.inl C_starts))), (a_C_severalStarts, .inl (cJ, 6000, .inr (.inl C_severalStarts)))]) ⟨hx, hb, hml, hown, hts⟩ (c_Chart_waysBetween l dC dI cI cJ cB a_S a_S_types a_S_ranks a_S_typeRanks a_W a_W_row a_C a_R a_C_starts a_C_severalStarts a_C_ends a_C_severalEnds a_C_reach a_C_severalReach a_C_found a_C_queue S_size S_sorts S_typeRanks W_length W_row C_queued C_usable C_starts C_severalStarts v7 v9 x3 v3 n x4 hx4) (cwV 4 hts (x_gV m_368 m_369 m_12 m_46 m_370) rfl rfl rfl hd_Chart_waysBetween ⟨Nat.le_of_ble_eq_true rfl, Nat.le_of_ble_eq_true rfl⟩) hK hP [0, 1, 5, 6, 7, 8, 9] rfl (ci := 3) (q0 := 4) rfl rfl rfl rfl hl.1 rfl (Nat.le_of_ble_eq_true rfl) d_Chart_waysToEnd_89 ⟨Nat.le_of_ble_eq_true rfl, Nat.le_of_ble_eq_true rfl⟩ ?_
        refine lv_istore (lv' := [(11, .int x4), (12, .int v12), (9, .long v9), (7, .long v7), (5, .int v5), (0, .ref a_C), (3, .int v3)]) hx hb d_Chart_waysToEnd_92 hl (by decide +kernel) rfl (fun ls hl => ?_)
        refine lv_iload hx hb d_Chart_waysToEnd_94 (lv_at hl 0 rfl) ?_
        refine lv_if_le (tgt := 113) hx hb d_Chart_waysToEnd_96 (by decide +kernel) (fun c5 => ?_) (fun c5 => ?_)
        · have hf := x_pos c5 hf
          refine lv_iload hx hb d_Chart_waysToEnd_113 (lv_at hl 0 rfl) ?_
          refine lv_iconst (v := (2 : Int32)) hx hb d_Chart_waysToEnd_115 (by decide +kernel) ?_
          refine lv_icmp_ne (tgt := 133) hx hb d_Chart_waysToEnd_116 (by decide +kernel) (fun c6 => ?_) (fun c6 => ?_)
          · have hf := x_neg c6 hf
            refine lv_aload_n hx hb d_Chart_waysToEnd_133 rfl (lv_at hl 5 rfl) ?_
            refine va_get (D := (dC, dI)) (ci := 3) (v := .ref a_C_reach) (C := "SyntaxTrees$Chart") (T := F_Chart) (N := 13) hx hb hts (fun w h => List.mem_cons_of_mem _ (in_Chart w h)) hown hK.1 hP 7 rfl rfl 7 (by decide +kernel) (hts _ (List.mem_cons_of_mem _ m_120)) (fun _ h9 => h9) rfl d_Chart_waysToEnd_134 ?_
            refine lv_iload hx hb d_Chart_waysToEnd_137 (lv_at hl 1 rfl) ?_
            obtain ⟨h7, hf⟩ := x_gd hf
            refine va_lald hx hb hK.1 hP 12 1 rfl rfl h7 d_Chart_waysToEnd_139 ?_
            refine lv_lstore (lv' := [(7, .long (C_reach v12.toNatClampNeg)), (11, .int x4), (12, .int v12), (9, .long v9), (5, .int v5), (0, .ref a_C), (3, .int v3)]) hx hb d_Chart_waysToEnd_140 hl (by decide +kernel) rfl (fun ls hl => ?_)
            refine lv_aload_n hx hb d_Chart_waysToEnd_142 rfl (lv_at hl 5 rfl) ?_
            refine va_get (D := (dC, dI)) (ci := 3) (v := .ref a_C_severalReach) (C := "SyntaxTrees$Chart") (T := F_Chart) (N := 13) hx hb hts (fun w h => List.mem_cons_of_mem _ (in_Chart w h)) hown hK.1 hP 7 rfl rfl 8 (by decide +kernel) (hts _ (List.mem_cons_of_mem _ m_121)) (fun _ h9 => h9) rfl d_Chart_waysToEnd_143 ?_
            refine lv_iload hx hb d_Chart_waysToEnd_146 (lv_at hl 2 rfl) ?_
            obtain ⟨h8, hf⟩ := x_gd hf
            refine va_lald hx hb hK.1 hP 13 1 rfl rfl h8 d_Chart_waysToEnd_148 ?_
            refine lv_lstore (lv' := [(9, .long (C_severalReach v12.toNatClampNeg)), (7, .long (C_reach v12.toNatClampNeg)), (11, .int x4), (12, .int v12), (5, .int v5), (0, .ref a_C), (3, .int v3)]) hx hb d_Chart_waysToEnd_149 hl (by decide +kernel) rfl (fun ls hl => ?_)
            refine lv_iinc (v := (v12 + (1 : Int32))) (lv' := [(12, .int (v12 + (1 : Int32))), (9, .long (C_severalReach v12.toNatClampNeg)), (7, .long (C_reach v12.toNatClampNeg)), (11, .int x4), (5, .int v5), (0, .ref a_C), (3, .int v3)]) hx hb d_Chart_waysToEnd_151 hl (k := 3) rfl rfl (by decide +kernel) rfl (fun ls hl => ?_)
            refine lv_goto (tgt := 60) hx hb d_Chart_waysToEnd_154 (by decide +kernel) ?_
            exact ih (v12 + (1 : Int32)) x4 (C_severalReach v12.toNatClampNeg) (C_reach v12.toNatClampNeg) C_reach C_severalReach o _ _ ls hf hP hD hS (lv_sub hl [0, 3, 1, 2, 4, 5, 6] rfl) kk
          · have hf := x_pos c6 hf
            refine lv_aload_n hx hb d_Chart_waysToEnd_119 rfl (lv_at hl 5 rfl) ?_
            refine va_get (D := (dC, dI)) (ci := 3) (v := .ref a_C_severalReach) (C := "SyntaxTrees$Chart") (T := F_Chart) (N := 13) hx hb hts (fun w h => List.mem_cons_of_mem _ (in_Chart w h)) hown hK.1 hP 7 rfl rfl 8 (by decide +kernel) (hts _ (List.mem_cons_of_mem _ m_121)) (fun _ h9 => h9) rfl d_Chart_waysToEnd_120 ?_
            refine lv_iload hx hb d_Chart_waysToEnd_123 (lv_at hl 1 rfl) ?_
            refine lv_dup2_11 hx hb d_Chart_waysToEnd_125 rfl rfl ?_
            obtain ⟨h9, hf⟩ := x_gd hf
            refine va_lald hx hb hK.1 hP 13 1 rfl rfl h9 d_Chart_waysToEnd_126 ?_
            refine lv_iload_n hx hb d_Chart_waysToEnd_127 rfl (lv_at hl 6 rfl) ?_
            obtain ⟨x10, hx10, hf⟩ := x_bd hf
            refine x_rdlSN (As := [.int v3]) (rest := [.long (C_severalReach v12.toNatClampNeg), .int v12, .ref a_C_severalReach]) (wc := []) ⟨hx, hb, hml, hown, hts⟩ (c_Top_bit l dC dI cI cJ cB v3 n x10 hx10) ⟨va_cnB 1 hts (x_gC m_364) rfl rfl rfl (hK.2 _ nx_Chart_89) (hts _ (List.mem_cons_of_mem _ m_42)) hd_Top_bit.2 ⟨Nat.le_of_ble_eq_true rfl, Nat.le_of_ble_eq_true rfl⟩, (hts _ (List.mem_cons_of_mem _ m_363)), trivial⟩ hK hP [] rfl rfl hl.1 rfl (Nat.le_of_ble_eq_true rfl) d_Chart_waysToEnd_128 ⟨Nat.le_of_ble_eq_true rfl, Nat.le_of_ble_eq_true rfl⟩ ?_
            refine lv_lor hx hb d_Chart_waysToEnd_131 ?_
            obtain ⟨h11, hf⟩ := x_gd hf
            refine x_last (w1 := [(a_S, .inr (0, [.ref a_S_types, .ref a_S_ranks, .ref a_S_typeRanks, .int S_size, .int S_sorts])), (a_S_typeRanks, .inl (cI, 1000, .inl S_typeRanks)), (a_R, .inr (1, [.ref a_S, .ref a_R_sorts, .ref a_R_all, .ref a_R_firsts, .ref a_R_newestWraps, .ref a_R_olderWraps, .int R_closed, .int R_used, .int R_isOpen])), (a_R_all, .inl (cI, 30000, .inl R_all)), (a_R_firsts, .inl (cI, 1501, .inl R_firsts)), (a_W, .inr (2, [.ref a_W_row, .int W_length])), (a_W_row, .inl (cI, 59, .inl W_row)), (a_C, .inr (3, [.ref a_S, .ref a_R, .ref a_W, .ref a_C_starts, .ref a_C_severalStarts, .ref a_C_ends, .ref a_C_severalEnds, .ref a_C_reach, .ref a_C_severalReach, .ref a_C_found, .ref a_C_queue, .int C_queued, .int C_usable])), (a_C_starts, .inl (cJ, 6000, .inr (.inl C_starts))), (a_C_severalStarts, .inl (cJ, 6000, .inr (.inl C_severalStarts))), (a_C_ends, .inl (cJ, 100, .inr (.inl C_ends))), (a_C_severalEnds, .inl (cJ, 100, .inr (.inl C_severalEnds))), (a_C_reach, .inl (cJ, 30000, .inr (.inl C_reach))), (a_C_severalReach, .inl (cJ, 30000, .inr (.inl (vp_updL C_severalReach v12.toNatClampNeg ((C_severalReach v12.toNatClampNeg) ||| x10)))))]) hx hb hK.1 hP hD hS 13 1 rfl rfl h11 d_Chart_waysToEnd_132 rfl (fun H locs hP hD hS => ?_)
            refine lv_aload_n hx hb d_Chart_waysToEnd_133 rfl (lv_at hl 5 rfl) ?_
            refine va_get (D := (dC, dI)) (ci := 3) (v := .ref a_C_reach) (C := "SyntaxTrees$Chart") (T := F_Chart) (N := 13) hx hb hts (fun w h => List.mem_cons_of_mem _ (in_Chart w h)) hown hK.1 hP 7 rfl rfl 7 (by decide +kernel) (hts _ (List.mem_cons_of_mem _ m_120)) (fun _ h9 => h9) rfl d_Chart_waysToEnd_134 ?_
            refine lv_iload hx hb d_Chart_waysToEnd_137 (lv_at hl 1 rfl) ?_
            obtain ⟨h12, hf⟩ := x_gd hf
            refine va_lald hx hb hK.1 hP 12 1 rfl rfl h12 d_Chart_waysToEnd_139 ?_
            refine lv_lstore (lv' := [(7, .long (C_reach v12.toNatClampNeg)), (11, .int x4), (12, .int v12), (9, .long v9), (5, .int v5), (0, .ref a_C), (3, .int v3)]) hx hb d_Chart_waysToEnd_140 hl (by decide +kernel) rfl (fun ls hl => ?_)
            refine lv_aload_n hx hb d_Chart_waysToEnd_142 rfl (lv_at hl 5 rfl) ?_
            refine va_get (D := (dC, dI)) (ci := 3) (v := .ref a_C_severalReach) (C := "SyntaxTrees$Chart") (T := F_Chart) (N := 13) hx hb hts (fun w h => List.mem_cons_of_mem _ (in_Chart w h)) hown hK.1 hP 7 rfl rfl 8 (by decide +kernel) (hts _ (List.mem_cons_of_mem _ m_121)) (fun _ h9 => h9) rfl d_Chart_waysToEnd_143 ?_
            refine lv_iload hx hb d_Chart_waysToEnd_146 (lv_at hl 2 rfl) ?_
            obtain ⟨h13, hf⟩ := x_gd hf
            refine va_lald hx hb hK.1 hP 13 1 rfl rfl h13 d_Chart_waysToEnd_148 ?_
            refine lv_lstore (lv' := [(9, .long ((vp_updL C_severalReach v12.toNatClampNeg ((C_severalReach v12.toNatClampNeg) ||| x10)) v12.toNatClampNeg)), (7, .long (C_reach v12.toNatClampNeg)), (11, .int x4), (12, .int v12), (5, .int v5), (0, .ref a_C), (3, .int v3)]) hx hb d_Chart_waysToEnd_149 hl (by decide +kernel) rfl (fun ls hl => ?_)
            refine lv_iinc (v := (v12 + (1 : Int32))) (lv' := [(12, .int (v12 + (1 : Int32))), (9, .long ((vp_updL C_severalReach v12.toNatClampNeg ((C_severalReach v12.toNatClampNeg) ||| x10)) v12.toNatClampNeg)), (7, .long (C_reach v12.toNatClampNeg)), (11, .int x4), (5, .int v5), (0, .ref a_C), (3, .int v3)]) hx hb d_Chart_waysToEnd_151 hl (k := 3) rfl rfl (by decide +kernel) rfl (fun ls hl => ?_)
            refine lv_goto (tgt := 60) hx hb d_Chart_waysToEnd_154 (by decide +kernel) ?_
            exact ih (v12 + (1 : Int32)) x4 ((vp_updL C_severalReach v12.toNatClampNeg ((C_severalReach v12.toNatClampNeg) ||| x10)) v12.toNatClampNeg) (C_reach v12.toNatClampNeg) C_reach (vp_updL C_severalReach v12.toNatClampNeg ((C_severalReach v12.toNatClampNeg) ||| x10)) o _ _ ls hf hP hD hS (lv_sub hl [0, 3, 1, 2, 4, 5, 6] rfl) kk
        · have hf := x_neg c5 hf
          refine lv_aload_n hx hb d_Chart_waysToEnd_99 rfl (lv_at hl 5 rfl) ?_
          refine va_get (D := (dC, dI)) (ci := 3) (v := .ref a_C_reach) (C := "SyntaxTrees$Chart") (T := F_Chart) (N := 13) hx hb hts (fun w h => List.mem_cons_of_mem _ (in_Chart w h)) hown hK.1 hP 7 rfl rfl 7 (by decide +kernel) (hts _ (List.mem_cons_of_mem _ m_120)) (fun _ h9 => h9) rfl d_Chart_waysToEnd_100 ?_
          refine lv_iload hx hb d_Chart_waysToEnd_103 (lv_at hl 1 rfl) ?_
          refine lv_dup2_11 hx hb d_Chart_waysToEnd_105 rfl rfl ?_
          obtain ⟨h14, hf⟩ := x_gd hf
          refine va_lald hx hb hK.1 hP 12 1 rfl rfl h14 d_Chart_waysToEnd_106 ?_
          refine lv_iload_n hx hb d_Chart_waysToEnd_107 rfl (lv_at hl 6 rfl) ?_
          obtain ⟨x15, hx15, hf⟩ := x_bd hf
          refine x_rdlSN (As := [.int v3]) (rest := [.long (C_reach v12.toNatClampNeg), .int v12, .ref a_C_reach]) (wc := []) ⟨hx, hb, hml, hown, hts⟩ (c_Top_bit l dC dI cI cJ cB v3 n x15 hx15) ⟨va_cnB 1 hts (x_gC m_364) rfl rfl rfl (hK.2 _ nx_Chart_89) (hts _ (List.mem_cons_of_mem _ m_42)) hd_Top_bit.2 ⟨Nat.le_of_ble_eq_true rfl, Nat.le_of_ble_eq_true rfl⟩, (hts _ (List.mem_cons_of_mem _ m_363)), trivial⟩ hK hP [] rfl rfl hl.1 rfl (Nat.le_of_ble_eq_true rfl) d_Chart_waysToEnd_108 ⟨Nat.le_of_ble_eq_true rfl, Nat.le_of_ble_eq_true rfl⟩ ?_
          refine lv_lor hx hb d_Chart_waysToEnd_111 ?_
          obtain ⟨h16, hf⟩ := x_gd hf
          refine x_last (w1 := [(a_S, .inr (0, [.ref a_S_types, .ref a_S_ranks, .ref a_S_typeRanks, .int S_size, .int S_sorts])), (a_S_typeRanks, .inl (cI, 1000, .inl S_typeRanks)), (a_R, .inr (1, [.ref a_S, .ref a_R_sorts, .ref a_R_all, .ref a_R_firsts, .ref a_R_newestWraps, .ref a_R_olderWraps, .int R_closed, .int R_used, .int R_isOpen])), (a_R_all, .inl (cI, 30000, .inl R_all)), (a_R_firsts, .inl (cI, 1501, .inl R_firsts)), (a_W, .inr (2, [.ref a_W_row, .int W_length])), (a_W_row, .inl (cI, 59, .inl W_row)), (a_C, .inr (3, [.ref a_S, .ref a_R, .ref a_W, .ref a_C_starts, .ref a_C_severalStarts, .ref a_C_ends, .ref a_C_severalEnds, .ref a_C_reach, .ref a_C_severalReach, .ref a_C_found, .ref a_C_queue, .int C_queued, .int C_usable])), (a_C_starts, .inl (cJ, 6000, .inr (.inl C_starts))), (a_C_severalStarts, .inl (cJ, 6000, .inr (.inl C_severalStarts))), (a_C_ends, .inl (cJ, 100, .inr (.inl C_ends))), (a_C_severalEnds, .inl (cJ, 100, .inr (.inl C_severalEnds))), (a_C_reach, .inl (cJ, 30000, .inr (.inl (vp_updL C_reach v12.toNatClampNeg ((C_reach v12.toNatClampNeg) ||| x15))))), (a_C_severalReach, .inl (cJ, 30000, .inr (.inl C_severalReach)))]) hx hb hK.1 hP hD hS 12 1 rfl rfl h16 d_Chart_waysToEnd_112 rfl (fun H locs hP hD hS => ?_)
          refine lv_iload hx hb d_Chart_waysToEnd_113 (lv_at hl 0 rfl) ?_
          refine lv_iconst (v := (2 : Int32)) hx hb d_Chart_waysToEnd_115 (by decide +kernel) ?_
          refine lv_icmp_ne (tgt := 133) hx hb d_Chart_waysToEnd_116 (by decide +kernel) (fun c17 => ?_) (fun c17 => ?_)
          · have hf := x_neg c17 hf
            refine lv_aload_n hx hb d_Chart_waysToEnd_133 rfl (lv_at hl 5 rfl) ?_
            refine va_get (D := (dC, dI)) (ci := 3) (v := .ref a_C_reach) (C := "SyntaxTrees$Chart") (T := F_Chart) (N := 13) hx hb hts (fun w h => List.mem_cons_of_mem _ (in_Chart w h)) hown hK.1 hP 7 rfl rfl 7 (by decide +kernel) (hts _ (List.mem_cons_of_mem _ m_120)) (fun _ h9 => h9) rfl d_Chart_waysToEnd_134 ?_
            refine lv_iload hx hb d_Chart_waysToEnd_137 (lv_at hl 1 rfl) ?_
            obtain ⟨h18, hf⟩ := x_gd hf
            refine va_lald hx hb hK.1 hP 12 1 rfl rfl h18 d_Chart_waysToEnd_139 ?_
            refine lv_lstore (lv' := [(7, .long ((vp_updL C_reach v12.toNatClampNeg ((C_reach v12.toNatClampNeg) ||| x15)) v12.toNatClampNeg)), (11, .int x4), (12, .int v12), (9, .long v9), (5, .int v5), (0, .ref a_C), (3, .int v3)]) hx hb d_Chart_waysToEnd_140 hl (by decide +kernel) rfl (fun ls hl => ?_)
            refine lv_aload_n hx hb d_Chart_waysToEnd_142 rfl (lv_at hl 5 rfl) ?_
            refine va_get (D := (dC, dI)) (ci := 3) (v := .ref a_C_severalReach) (C := "SyntaxTrees$Chart") (T := F_Chart) (N := 13) hx hb hts (fun w h => List.mem_cons_of_mem _ (in_Chart w h)) hown hK.1 hP 7 rfl rfl 8 (by decide +kernel) (hts _ (List.mem_cons_of_mem _ m_121)) (fun _ h9 => h9) rfl d_Chart_waysToEnd_143 ?_
            refine lv_iload hx hb d_Chart_waysToEnd_146 (lv_at hl 2 rfl) ?_
            obtain ⟨h19, hf⟩ := x_gd hf
            refine va_lald hx hb hK.1 hP 13 1 rfl rfl h19 d_Chart_waysToEnd_148 ?_
            refine lv_lstore (lv' := [(9, .long (C_severalReach v12.toNatClampNeg)), (7, .long ((vp_updL C_reach v12.toNatClampNeg ((C_reach v12.toNatClampNeg) ||| x15)) v12.toNatClampNeg)), (11, .int x4), (12, .int v12), (5, .int v5), (0, .ref a_C), (3, .int v3)]) hx hb d_Chart_waysToEnd_149 hl (by decide +kernel) rfl (fun ls hl => ?_)
            refine lv_iinc (v := (v12 + (1 : Int32))) (lv' := [(12, .int (v12 + (1 : Int32))), (9, .long (C_severalReach v12.toNatClampNeg)), (7, .long ((vp_updL C_reach v12.toNatClampNeg ((C_reach v12.toNatClampNeg) ||| x15)) v12.toNatClampNeg)), (11, .int x4), (5, .int v5), (0, .ref a_C), (3, .int v3)]) hx hb d_Chart_waysToEnd_151 hl (k := 3) rfl rfl (by decide +kernel) rfl (fun ls hl => ?_)
            refine lv_goto (tgt := 60) hx hb d_Chart_waysToEnd_154 (by decide +kernel) ?_
            exact ih (v12 + (1 : Int32)) x4 (C_severalReach v12.toNatClampNeg) ((vp_updL C_reach v12.toNatClampNeg ((C_reach v12.toNatClampNeg) ||| x15)) v12.toNatClampNeg) (vp_updL C_reach v12.toNatClampNeg ((C_reach v12.toNatClampNeg) ||| x15)) C_severalReach o _ _ ls hf hP hD hS (lv_sub hl [0, 3, 1, 2, 4, 5, 6] rfl) kk
          · have hf := x_pos c17 hf
            refine lv_aload_n hx hb d_Chart_waysToEnd_119 rfl (lv_at hl 5 rfl) ?_
            refine va_get (D := (dC, dI)) (ci := 3) (v := .ref a_C_severalReach) (C := "SyntaxTrees$Chart") (T := F_Chart) (N := 13) hx hb hts (fun w h => List.mem_cons_of_mem _ (in_Chart w h)) hown hK.1 hP 7 rfl rfl 8 (by decide +kernel) (hts _ (List.mem_cons_of_mem _ m_121)) (fun _ h9 => h9) rfl d_Chart_waysToEnd_120 ?_
            refine lv_iload hx hb d_Chart_waysToEnd_123 (lv_at hl 1 rfl) ?_
            refine lv_dup2_11 hx hb d_Chart_waysToEnd_125 rfl rfl ?_
            obtain ⟨h20, hf⟩ := x_gd hf
            refine va_lald hx hb hK.1 hP 13 1 rfl rfl h20 d_Chart_waysToEnd_126 ?_
            refine lv_iload_n hx hb d_Chart_waysToEnd_127 rfl (lv_at hl 6 rfl) ?_
            obtain ⟨x21, hx21, hf⟩ := x_bd hf
            refine x_rdlSN (As := [.int v3]) (rest := [.long (C_severalReach v12.toNatClampNeg), .int v12, .ref a_C_severalReach]) (wc := []) ⟨hx, hb, hml, hown, hts⟩ (c_Top_bit l dC dI cI cJ cB v3 n x21 hx21) ⟨va_cnB 1 hts (x_gC m_364) rfl rfl rfl (hK.2 _ nx_Chart_89) (hts _ (List.mem_cons_of_mem _ m_42)) hd_Top_bit.2 ⟨Nat.le_of_ble_eq_true rfl, Nat.le_of_ble_eq_true rfl⟩, (hts _ (List.mem_cons_of_mem _ m_363)), trivial⟩ hK hP [] rfl rfl hl.1 rfl (Nat.le_of_ble_eq_true rfl) d_Chart_waysToEnd_128 ⟨Nat.le_of_ble_eq_true rfl, Nat.le_of_ble_eq_true rfl⟩ ?_
            refine lv_lor hx hb d_Chart_waysToEnd_131 ?_
            obtain ⟨h22, hf⟩ := x_gd hf
            refine x_last (w1 := [(a_S, .inr (0, [.ref a_S_types, .ref a_S_ranks, .ref a_S_typeRanks, .int S_size, .int S_sorts])), (a_S_typeRanks, .inl (cI, 1000, .inl S_typeRanks)), (a_R, .inr (1, [.ref a_S, .ref a_R_sorts, .ref a_R_all, .ref a_R_firsts, .ref a_R_newestWraps, .ref a_R_olderWraps, .int R_closed, .int R_used, .int R_isOpen])), (a_R_all, .inl (cI, 30000, .inl R_all)), (a_R_firsts, .inl (cI, 1501, .inl R_firsts)), (a_W, .inr (2, [.ref a_W_row, .int W_length])), (a_W_row, .inl (cI, 59, .inl W_row)), (a_C, .inr (3, [.ref a_S, .ref a_R, .ref a_W, .ref a_C_starts, .ref a_C_severalStarts, .ref a_C_ends, .ref a_C_severalEnds, .ref a_C_reach, .ref a_C_severalReach, .ref a_C_found, .ref a_C_queue, .int C_queued, .int C_usable])), (a_C_starts, .inl (cJ, 6000, .inr (.inl C_starts))), (a_C_severalStarts, .inl (cJ, 6000, .inr (.inl C_severalStarts))), (a_C_ends, .inl (cJ, 100, .inr (.inl C_ends))), (a_C_severalEnds, .inl (cJ, 100, .inr (.inl C_severalEnds))), (a_C_reach, .inl (cJ, 30000, .inr (.inl (vp_updL C_reach v12.toNatClampNeg ((C_reach v12.toNatClampNeg) ||| x15))))), (a_C_severalReach, .inl (cJ, 30000, .inr (.inl (vp_updL C_severalReach v12.toNatClampNeg ((C_severalReach v12.toNatClampNeg) ||| x21)))))]) hx hb hK.1 hP hD hS 13 1 rfl rfl h22 d_Chart_waysToEnd_132 rfl (fun H locs hP hD hS => ?_)
            refine lv_aload_n hx hb d_Chart_waysToEnd_133 rfl (lv_at hl 5 rfl) ?_
            refine va_get (D := (dC, dI)) (ci := 3) (v := .ref a_C_reach) (C := "SyntaxTrees$Chart") (T := F_Chart) (N := 13) hx hb hts (fun w h => List.mem_cons_of_mem _ (in_Chart w h)) hown hK.1 hP 7 rfl rfl 7 (by decide +kernel) (hts _ (List.mem_cons_of_mem _ m_120)) (fun _ h9 => h9) rfl d_Chart_waysToEnd_134 ?_
            refine lv_iload hx hb d_Chart_waysToEnd_137 (lv_at hl 1 rfl) ?_
            obtain ⟨h23, hf⟩ := x_gd hf
            refine va_lald hx hb hK.1 hP 12 1 rfl rfl h23 d_Chart_waysToEnd_139 ?_
            refine lv_lstore (lv' := [(7, .long ((vp_updL C_reach v12.toNatClampNeg ((C_reach v12.toNatClampNeg) ||| x15)) v12.toNatClampNeg)), (11, .int x4), (12, .int v12), (9, .long v9), (5, .int v5), (0, .ref a_C), (3, .int v3)]) hx hb d_Chart_waysToEnd_140 hl (by decide +kernel) rfl (fun ls hl => ?_)
            refine lv_aload_n hx hb d_Chart_waysToEnd_142 rfl (lv_at hl 5 rfl) ?_
            refine va_get (D := (dC, dI)) (ci := 3) (v := .ref a_C_severalReach) (C := "SyntaxTrees$Chart") (T := F_Chart) (N := 13) hx hb hts (fun w h => List.mem_cons_of_mem _ (in_Chart w h)) hown hK.1 hP 7 rfl rfl 8 (by decide +kernel) (hts _ (List.mem_cons_of_mem _ m_121)) (fun _ h9 => h9) rfl d_Chart_waysToEnd_143 ?_
            refine lv_iload hx hb d_Chart_waysToEnd_146 (lv_at hl 2 rfl) ?_
            obtain ⟨h24, hf⟩ := x_gd hf
            refine va_lald hx hb hK.1 hP 13 1 rfl rfl h24 d_Chart_waysToEnd_148 ?_
            refine lv_lstore (lv' := [(9, .long ((vp_updL C_severalReach v12.toNatClampNeg ((C_severalReach v12.toNatClampNeg) ||| x21)) v12.toNatClampNeg)), (7, .long ((vp_updL C_reach v12.toNatClampNeg ((C_reach v12.toNatClampNeg) ||| x15)) v12.toNatClampNeg)), (11, .int x4), (12, .int v12), (5, .int v5), (0, .ref a_C), (3, .int v3)]) hx hb d_Chart_waysToEnd_149 hl (by decide +kernel) rfl (fun ls hl => ?_)
            refine lv_iinc (v := (v12 + (1 : Int32))) (lv' := [(12, .int (v12 + (1 : Int32))), (9, .long ((vp_updL C_severalReach v12.toNatClampNeg ((C_severalReach v12.toNatClampNeg) ||| x21)) v12.toNatClampNeg)), (7, .long ((vp_updL C_reach v12.toNatClampNeg ((C_reach v12.toNatClampNeg) ||| x15)) v12.toNatClampNeg)), (11, .int x4), (5, .int v5), (0, .ref a_C), (3, .int v3)]) hx hb d_Chart_waysToEnd_151 hl (k := 3) rfl rfl (by decide +kernel) rfl (fun ls hl => ?_)
            refine lv_goto (tgt := 60) hx hb d_Chart_waysToEnd_154 (by decide +kernel) ?_
            exact ih (v12 + (1 : Int32)) x4 ((vp_updL C_severalReach v12.toNatClampNeg ((C_severalReach v12.toNatClampNeg) ||| x21)) v12.toNatClampNeg) ((vp_updL C_reach v12.toNatClampNeg ((C_reach v12.toNatClampNeg) ||| x15)) v12.toNatClampNeg) (vp_updL C_reach v12.toNatClampNeg ((C_reach v12.toNatClampNeg) ||| x15)) (vp_updL C_severalReach v12.toNatClampNeg ((C_severalReach v12.toNatClampNeg) ||| x21)) o _ _ ls hf hP hD hS (lv_sub hl [0, 3, 1, 2, 4, 5, 6] rfl) kk
