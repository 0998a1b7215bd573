set_option maxHeartbeats 4000000 in
set_option maxRecDepth 100000 in
theorem c_Row_init (l : Launch) (dC : Nat → ClassId) (dI : Nat → Nat → Nat) (cI cJ cB : ClassId) (a_Z : Nat)  (sz : Nat) : Met l y_Row_init w_Row_init ({ frames := 1, cells := 1, slots := 59, locals := 12 }) (va_Pc [.ref a_Z] (fun U => U.heap.size = sz ∧ va_P (dC, dI) vwCl [(a_Z, .inr (2, [.null, .int (0 : Int32)]))] U.heap ∧ x_K (dC, dI) [(cI, .int), (cJ, .long), (cB, .byte)] U ∧ va_D (fun _ => True) [(a_Z, .inr (2, [.null, .int (0 : Int32)]))])) (va_Qv (fun (_ : Nat → Nat) => True) (fun u t => va_P (dC, dI) vwCl [(a_Z, .inr (2, [.ref (u 0), .int (0 : Int32)])), ((u 0), .inl (cI, 59, .inl (fun _ => (0 : Int32))))] t.heap ∧ va_D (va_A [(a_Z, .inr (2, [.null, .int (0 : Int32)]))] sz) [(a_Z, .inr (2, [.ref (u 0), .int (0 : Int32)])), ((u 0), .inl (cI, 59, .inl (fun _ => (0 : Int32))))]) (va_A [(a_Z, .inr (2, [.null, .int (0 : Int32)]))] sz)) 1 59 (va_A [(a_Z, .inr (2, [.null, .int (0 : Int32)]))] sz) := by
  refine Met.ofW (cc := b_Row_init) (maxL := 1) (ret := none) (by decide +kernel) rfl ?_
  intro p e s m args below meth c s₁ B hml hv
  obtain ⟨rfl, hsz, hP, hK, hD0⟩ := hv
  have hx := B.exec
  have hb := B.bytes
  have hr := B.returns
  have hts := atoms_spec (ws := w_Row_init) B.pre
  have hown : s.vm.findClass "SyntaxTrees$Row" = some m.cls := findClass_of_methodNamed B.named
  have hlocks := B.notSynchronized
  have hin : meth.name = "<init>" := (name_of_methodNamed B.named B.method).1
  subst hsz
  have hD := hD0.self (sz := s.heap.size)
  generalize hAe : va_A [(a_Z, .inr (2, [.null, .int (0 : Int32)]))] s.heap.size = A at hD ⊢
  have hA : ∀ q : Nat, s.heap.size ≤ q → A q := fun q h => by rw [← hAe]; exact Or.inr h
  have hS : va_S A s.heap s.heap [] := va_S.rf
  have hP : va_P (dC, dI) vwCl [(a_Z, .inr (2, [.null, .int (0 : Int32)]))] s.heap := hP
  have hl := lv_entry ([.ref a_Z]) (n := 1) (Nat.le_of_ble_eq_true rfl)
  rw [lg_entry_eq]
  generalize (lg_sl ([.ref a_Z]) ++ List.replicate (1 - (lg_sl ([.ref a_Z])).length) Slot.unset).toArray = ls at hl ⊢
  have hl : lv_has ls 1 [(0, .ref a_Z)] := hl
  refine x_Q (fun Q hQ => ?_)
  refine lv_aload_n hx hb d_Row_init_0 rfl (lv_at hl 0 rfl) ?_
  refine W.objInit hx hb hown (hts _ (List.mem_cons_of_mem _ m_102)) (hts _ (List.mem_cons_of_mem _ m_56)) (hts _ (List.mem_cons_of_mem _ m_57)) rfl (by rw [hml]; exact hl.1) rfl d_Row_init_1 (Nat.le_of_ble_eq_true rfl) (Nat.le_of_ble_eq_true rfl) ?_
  refine W.eq (g2 := F0 m 4 ls []) rfl ?_
  refine lv_aload_n hx hb d_Row_init_4 rfl (lv_at hl 0 rfl) ?_
  refine lv_bipush (v := (59 : Int32)) hx hb d_Row_init_5 (by decide +kernel) ?_
  refine x_newi (wn := fun a_Z_row => [(a_Z, .inr (2, [.null, .int (0 : Int32)])), (a_Z_row, .inl (cI, 59, .inl (fun _ => (0 : Int32))))]) (n := (59 : Int32)) (N' := 59) hx hb (hts _ (List.mem_cons_of_mem _ m_73)) hK hP hD hS hA 0 rfl (by decide +kernel) (by decide +kernel) (by decide +kernel) (Nat.le_of_ble_eq_true rfl) (Nat.le_of_ble_eq_true rfl) d_Row_init_7 (fun _ => rfl) (fun a_Z_row H hP hD hS => ?_)
  refine W.widen (k := 1) (n := 59) (Nat.le_of_ble_eq_true rfl) (Nat.le_of_ble_eq_true rfl) ?_
  refine x_putF (D := (dC, dI)) (ci := 2) (v := .ref a_Z_row) (ty := .array .int) (C := "SyntaxTrees$Row") (T := F_Row) (N := 2) (w1 := [(a_Z, .inr (2, [.ref a_Z_row, .int (0 : Int32)])), (a_Z_row, .inl (cI, 59, .inl (fun _ => (0 : Int32))))]) hx hb hts (fun w h => List.mem_cons_of_mem _ (in_Row w h)) t_Row t_Row_ok n_Row hown hK.1 hP hD hS 0 rfl rfl 0 (by decide +kernel) (hts _ (List.mem_cons_of_mem _ m_103)) (fun _ h9 => h9) rfl hin rfl (by decide +kernel) rfl rfl (Nat.le_of_ble_eq_true rfl) d_Row_init_9 rfl (fun H locs hP hD hS => ?_)
  subst hQ
  exact W.vret hx hb hr (fun t ht _ => ⟨⟨fun k => ([a_Z_row] : List Nat).getD k 0, rfl, trivial, by rw [ht]; exact hP, hD⟩, hS.F ht⟩) hS.2.2 d_Row_init_12
