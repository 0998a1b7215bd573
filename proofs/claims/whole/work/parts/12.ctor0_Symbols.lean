set_option maxHeartbeats 4000000 in
set_option maxRecDepth 100000 in
theorem c_Symbols_init (l : Launch) (dC : Nat → ClassId) (dI : Nat → Nat → Nat) (cI cJ cB : ClassId) (a_S : Nat)  (sz : Nat) : Met l y_Symbols_init w_Symbols_init ({ frames := 1, cells := 3, slots := 3000, locals := 12 }) (va_Pc [.ref a_S] (fun U => U.heap.size = sz ∧ va_P (dC, dI) vwCl [(a_S, .inr (0, [.null, .null, .null, .int (0 : Int32), .int (0 : Int32)]))] U.heap ∧ x_K (dC, dI) [(cI, .int), (cJ, .long), (cB, .byte)] U ∧ va_D (fun _ => True) [(a_S, .inr (0, [.null, .null, .null, .int (0 : Int32), .int (0 : Int32)]))])) (va_Qv (fun (_ : Nat → Nat) => True) (fun u t => va_P (dC, dI) vwCl [(a_S, .inr (0, [.ref (u 0), .ref (u 1), .ref (u 2), .int (0 : Int32), .int (0 : Int32)])), ((u 0), .inl (cI, 1000, .inl (fun _ => (0 : Int32)))), ((u 1), .inl (cI, 1000, .inl (fun _ => (0 : Int32)))), ((u 2), .inl (cI, 1000, .inl (fun _ => (0 : Int32))))] t.heap ∧ va_D (va_A [(a_S, .inr (0, [.null, .null, .null, .int (0 : Int32), .int (0 : Int32)]))] sz) [(a_S, .inr (0, [.ref (u 0), .ref (u 1), .ref (u 2), .int (0 : Int32), .int (0 : Int32)])), ((u 0), .inl (cI, 1000, .inl (fun _ => (0 : Int32)))), ((u 1), .inl (cI, 1000, .inl (fun _ => (0 : Int32)))), ((u 2), .inl (cI, 1000, .inl (fun _ => (0 : Int32))))]) (va_A [(a_S, .inr (0, [.null, .null, .null, .int (0 : Int32), .int (0 : Int32)]))] sz)) 3 3000 (va_A [(a_S, .inr (0, [.null, .null, .null, .int (0 : Int32), .int (0 : Int32)]))] sz) := by
  refine Met.ofW (cc := b_Symbols_init) (maxL := 1) (ret := none) (by decide +kernel) rfl ?_
  intro p e s m args below meth c s₁ B hml hv
  obtain ⟨rfl, hsz, hP, hK, hD0⟩ := hv
  have hx := B.exec
  have hb := B.bytes
  have hr := B.returns
  have hts := atoms_spec (ws := w_Symbols_init) B.pre
  have hown : s.vm.findClass "SyntaxTrees$Symbols" = some m.cls := findClass_of_methodNamed B.named
  have hlocks := B.notSynchronized
  have hin : meth.name = "<init>" := (name_of_methodNamed B.named B.method).1
  subst hsz
  have hD := hD0.self (sz := s.heap.size)
  generalize hAe : va_A [(a_S, .inr (0, [.null, .null, .null, .int (0 : Int32), .int (0 : Int32)]))] s.heap.size = A at hD ⊢
  have hA : ∀ q : Nat, s.heap.size ≤ q → A q := fun q h => by rw [← hAe]; exact Or.inr h
  have hS : va_S A s.heap s.heap [] := va_S.rf
  have hP : va_P (dC, dI) vwCl [(a_S, .inr (0, [.null, .null, .null, .int (0 : Int32), .int (0 : Int32)]))] s.heap := hP
  have hl := lv_entry ([.ref a_S]) (n := 1) (Nat.le_of_ble_eq_true rfl)
  rw [lg_entry_eq]
  generalize (lg_sl ([.ref a_S]) ++ List.replicate (1 - (lg_sl ([.ref a_S])).length) Slot.unset).toArray = ls at hl ⊢
  have hl : lv_has ls 1 [(0, .ref a_S)] := hl
  refine x_Q (fun Q hQ => ?_)
  refine lv_aload_n hx hb d_Symbols_init_0 rfl (lv_at hl 0 rfl) ?_
  refine W.objInit hx hb hown (hts _ (List.mem_cons_of_mem _ m_62)) (hts _ (List.mem_cons_of_mem _ m_56)) (hts _ (List.mem_cons_of_mem _ m_57)) rfl (by rw [hml]; exact hl.1) rfl d_Symbols_init_1 (Nat.le_of_ble_eq_true rfl) (Nat.le_of_ble_eq_true rfl) ?_
  refine W.eq (g2 := F0 m 4 ls []) rfl ?_
  refine lv_aload_n hx hb d_Symbols_init_4 rfl (lv_at hl 0 rfl) ?_
  refine lv_sipush (v := (1000 : Int32)) hx hb d_Symbols_init_5 (by decide +kernel) ?_
  refine x_newi (wn := fun a_S_types => [(a_S, .inr (0, [.null, .null, .null, .int (0 : Int32), .int (0 : Int32)])), (a_S_types, .inl (cI, 1000, .inl (fun _ => (0 : Int32))))]) (n := (1000 : Int32)) (N' := 1000) hx hb (hts _ (List.mem_cons_of_mem _ m_73)) hK hP hD hS hA 0 rfl (by decide +kernel) (by decide +kernel) (by decide +kernel) (Nat.le_of_ble_eq_true rfl) (Nat.le_of_ble_eq_true rfl) d_Symbols_init_8 (fun _ => rfl) (fun a_S_types H hP hD hS => ?_)
  refine W.widen (k := 1) (n := 1000) (Nat.le_of_ble_eq_true rfl) (Nat.le_of_ble_eq_true rfl) ?_
  refine x_putF (D := (dC, dI)) (ci := 0) (v := .ref a_S_types) (ty := .array .int) (C := "SyntaxTrees$Symbols") (T := F_Symbols) (N := 5) (w1 := [(a_S, .inr (0, [.ref a_S_types, .null, .null, .int (0 : Int32), .int (0 : Int32)])), (a_S_types, .inl (cI, 1000, .inl (fun _ => (0 : Int32))))]) hx hb hts (fun w h => List.mem_cons_of_mem _ (in_Symbols w h)) t_Symbols t_Symbols_ok n_Symbols hown hK.1 hP hD hS 0 rfl rfl 0 (by decide +kernel) (hts _ (List.mem_cons_of_mem _ m_63)) (fun _ h9 => h9) rfl hin rfl (by decide +kernel) rfl rfl (Nat.le_of_ble_eq_true rfl) d_Symbols_init_10 rfl (fun H locs hP hD hS => ?_)
  refine lv_aload_n hx hb d_Symbols_init_13 rfl (lv_at hl 0 rfl) ?_
  refine lv_sipush (v := (1000 : Int32)) hx hb d_Symbols_init_14 (by decide +kernel) ?_
  refine x_newi (wn := fun a_S_ranks => [(a_S, .inr (0, [.ref a_S_types, .null, .null, .int (0 : Int32), .int (0 : Int32)])), (a_S_types, .inl (cI, 1000, .inl (fun _ => (0 : Int32)))), (a_S_ranks, .inl (cI, 1000, .inl (fun _ => (0 : Int32))))]) (n := (1000 : Int32)) (N' := 1000) hx hb (hts _ (List.mem_cons_of_mem _ m_73)) hK hP hD hS hA 0 rfl (by decide +kernel) (by decide +kernel) (by decide +kernel) (Nat.le_of_ble_eq_true rfl) (Nat.le_of_ble_eq_true rfl) d_Symbols_init_17 (fun _ => rfl) (fun a_S_ranks H hP hD hS => ?_)
  refine W.widen (k := 2) (n := 2000) (Nat.le_of_ble_eq_true rfl) (Nat.le_of_ble_eq_true rfl) ?_
  refine x_putF (D := (dC, dI)) (ci := 0) (v := .ref a_S_ranks) (ty := .array .int) (C := "SyntaxTrees$Symbols") (T := F_Symbols) (N := 5) (w1 := [(a_S, .inr (0, [.ref a_S_types, .ref a_S_ranks, .null, .int (0 : Int32), .int (0 : Int32)])), (a_S_types, .inl (cI, 1000, .inl (fun _ => (0 : Int32)))), (a_S_ranks, .inl (cI, 1000, .inl (fun _ => (0 : Int32))))]) hx hb hts (fun w h => List.mem_cons_of_mem _ (in_Symbols w h)) t_Symbols t_Symbols_ok n_Symbols hown hK.1 hP hD hS 0 rfl rfl 1 (by decide +kernel) (hts _ (List.mem_cons_of_mem _ m_64)) (fun _ h9 => h9) rfl hin rfl (by decide +kernel) rfl rfl (Nat.le_of_ble_eq_true rfl) d_Symbols_init_19 rfl (fun H locs hP hD hS => ?_)
  refine lv_aload_n hx hb d_Symbols_init_22 rfl (lv_at hl 0 rfl) ?_
  refine lv_sipush (v := (1000 : Int32)) hx hb d_Symbols_init_23 (by decide +kernel) ?_
  refine x_newi (wn := fun a_S_typeRanks => [(a_S, .inr (0, [.ref a_S_types, .ref a_S_ranks, .null, .int (0 : Int32), .int (0 : Int32)])), (a_S_types, .inl (cI, 1000, .inl (fun _ => (0 : Int32)))), (a_S_ranks, .inl (cI, 1000, .inl (fun _ => (0 : Int32)))), (a_S_typeRanks, .inl (cI, 1000, .inl (fun _ => (0 : Int32))))]) (n := (1000 : Int32)) (N' := 1000) hx hb (hts _ (List.mem_cons_of_mem _ m_73)) hK hP hD hS hA 0 rfl (by decide +kernel) (by decide +kernel) (by decide +kernel) (Nat.le_of_ble_eq_true rfl) (Nat.le_of_ble_eq_true rfl) d_Symbols_init_26 (fun _ => rfl) (fun a_S_typeRanks H hP hD hS => ?_)
  refine W.widen (k := 3) (n := 3000) (Nat.le_of_ble_eq_true rfl) (Nat.le_of_ble_eq_true rfl) ?_
  refine x_putF (D := (dC, dI)) (ci := 0) (v := .ref a_S_typeRanks) (ty := .array .int) (C := "SyntaxTrees$Symbols") (T := F_Symbols) (N := 5) (w1 := [(a_S, .inr (0, [.ref a_S_types, .ref a_S_ranks, .ref a_S_typeRanks, .int (0 : Int32), .int (0 : Int32)])), (a_S_types, .inl (cI, 1000, .inl (fun _ => (0 : Int32)))), (a_S_ranks, .inl (cI, 1000, .inl (fun _ => (0 : Int32)))), (a_S_typeRanks, .inl (cI, 1000, .inl (fun _ => (0 : Int32))))]) hx hb hts (fun w h => List.mem_cons_of_mem _ (in_Symbols w h)) t_Symbols t_Symbols_ok n_Symbols hown hK.1 hP hD hS 0 rfl rfl 2 (by decide +kernel) (hts _ (List.mem_cons_of_mem _ m_65)) (fun _ h9 => h9) rfl hin rfl (by decide +kernel) rfl rfl (Nat.le_of_ble_eq_true rfl) d_Symbols_init_28 rfl (fun H locs hP hD hS => ?_)
  subst hQ
  exact W.vret hx hb hr (fun t ht _ => ⟨⟨fun k => ([a_S_types, a_S_ranks, a_S_typeRanks] : List Nat).getD k 0, rfl, trivial, by rw [ht]; exact hP, hD⟩, hS.F ht⟩) hS.2.2 d_Symbols_init_31
