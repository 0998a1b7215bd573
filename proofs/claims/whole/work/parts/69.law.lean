/-! The law: whatever is called, class and reference answer alike -/
def l_I (S_size : Int32) (S_sorts : Int32) (S_types : Nat → Int32) (S_ranks : Nat → Int32) (S_typeRanks : Nat → Int32) (R_closed : Int32) (R_used : Int32) (R_isOpen : Int32) (R_sorts : Nat → Int32) (R_all : Nat → Int32) (R_firsts : Nat → Int32) (R_newestWraps : Nat → Int32) (R_olderWraps : Nat → Int32) (W_length : Int32) (W_row : Nat → Int32) (T_size : Int32) (M_length : Int32) (M_row : Nat → Int32) (T_ruleOf : Nat → Int32) (T_sortOf : Nat → Int32) (T_startOf : Nat → Int32) (T_endOf : Nat → Int32) (T_firstPart : Nat → Int32) (T_partCount : Nat → Int32) (T_told : Nat → Int32) (D_symbols : Int32) (D_sorts : Int32) (D_rules : Int32) (D_isOpen : Int32) (D_all : Int32) (D_length : Int32) (D_isFound : Int32) (D_foundLimit : Int32) (D_nodes : Int32) (D_types : Nat → Int32) (D_sortOf : Nat → Int32) (D_makes : Nat → Int32) (D_starts : Nat → Int32) (D_told : Nat → Int32) (D_row : Nat → Int32) (D_many : Nat → Int32) (D_ruleOf : Nat → Int32) (D_sortAt : Nat → Int32) (D_from : Nat → Int32) (D_upTo : Nat → Int32) (D_firsts : Nat → Int32) (D_parts : Nat → Int32) (D_variables : Nat → Int32) (D_order : Nat → Int32) : Prop := ∃ (sz so : Nat) (ty rk : Nat → Option Nat) (cl us : Nat) (op : Bool) (rs fi al : Nat → Nat) (ln : Nat) (rw_ : Nat → Nat), m_S sz so ty rk ∧ a_S sz so ty rk S_size S_sorts S_types S_ranks S_typeRanks ∧ d_S sz so ty rk D_symbols D_sorts D_types D_sortOf ∧ m_R sz ty rk cl us op rs fi al ∧ a_R ty rk cl us op rs fi al R_closed R_used R_isOpen R_sorts R_all R_firsts R_newestWraps R_olderWraps ∧ d_R cl us op rs fi al D_rules D_isOpen D_all D_makes D_starts D_told ∧ m_W sz ln rw_ ∧ a_W ln rw_ W_length W_row ∧ a_W ln rw_ D_length D_row ∧ d_cache ty rk rs fi al rw_ cl so ln D_isFound D_foundLimit D_many ∧ t_tree sz ty rs fi al cl M_length M_row T_size T_ruleOf T_sortOf T_startOf T_endOf T_firstPart T_partCount T_told D_nodes D_ruleOf D_sortAt D_from D_upTo D_firsts D_parts D_variables D_order
theorem l_more {L i : Nat} (hL : L ≤ 2560) (hi : i ≤ 2560) : ((Int32.ofNat L) - (5 : Int32) < nI i) = (L < i + 5) := by
  by_cases z : 5 ≤ L
  · have e : (Int32.ofNat L) - (5 : Int32) = nI (L - 5) := i_sub (a := L) (b := 5) z
    rw [e, i_lt (by omega) (by omega)]
    exact propext (by omega)
  · refine propext ⟨fun _ => by omega, fun _ => ?_⟩
    have e : (Int32.ofNat L) - (5 : Int32) < 0 := by
      have : L = 0 ∨ L = 1 ∨ L = 2 ∨ L = 3 ∨ L = 4 := by omega
      rcases this with y | y | y | y | y <;> subst y <;> decide
    rw [Int32.lt_iff_toInt_lt] at e ⊢
    rw [nI_toInt (by omega)]
    have z0 : (0 : Int32).toInt = 0 := by decide
    rw [z0] at e
    omega
theorem law_inv {n L : Nat} {xs : Nat → Int32} (hn : 40000 ≤ n) (hL : L ≤ 2560) : ∀ (k i : Nat) (S_size : Int32) (S_sorts : Int32) (S_types : Nat → Int32) (S_ranks : Nat → Int32) (S_typeRanks : Nat → Int32) (R_closed : Int32) (R_used : Int32) (R_isOpen : Int32) (R_sorts : Nat → Int32) (R_all : Nat → Int32) (R_firsts : Nat → Int32) (R_newestWraps : Nat → Int32) (R_olderWraps : Nat → Int32) (W_length : Int32) (W_row : Nat → Int32) (C_queued : Int32) (C_usable : Int32) (C_starts : Nat → Int64) (C_severalStarts : Nat → Int64) (C_ends : Nat → Int64) (C_severalEnds : Nat → Int64) (C_reach : Nat → Int64) (C_severalReach : Nat → Int64) (C_found : Nat → Int32) (C_queue : Nat → Int32) (T_size : Int32) (M_length : Int32) (M_row : Nat → Int32) (T_ruleOf : Nat → Int32) (T_sortOf : Nat → Int32) (T_startOf : Nat → Int32) (T_endOf : Nat → Int32) (T_firstPart : Nat → Int32) (T_partCount : Nat → Int32) (T_weight : Nat → Int32) (T_toldBefore : Nat → Int32) (T_told : Nat → Int32) (T_rests : Nat → Int64) (D_symbols : Int32) (D_sorts : Int32) (D_rules : Int32) (D_isOpen : Int32) (D_all : Int32) (D_length : Int32) (D_isFound : Int32) (D_foundLimit : Int32) (D_nodes : Int32) (D_types : Nat → Int32) (D_sortOf : Nat → Int32) (D_makes : Nat → Int32) (D_starts : Nat → Int32) (D_told : Nat → Int32) (D_row : Nat → Int32) (D_many : Nat → Int32) (D_ways : Nat → Int32) (D_base : Nat → Int32) (D_ruleOf : Nat → Int32) (D_sortAt : Nat → Int32) (D_from : Nat → Int32) (D_upTo : Nat → Int32) (D_firsts : Nat → Int32) (D_parts : Nat → Int32) (D_variables : Nat → Int32) (D_order : Nat → Int32) (D_pile : Nat → Int32) (D_next : Nat → Int32), i ≤ L → L - i < k → l_I S_size S_sorts S_types S_ranks S_typeRanks R_closed R_used R_isOpen R_sorts R_all R_firsts R_newestWraps R_olderWraps W_length W_row T_size M_length M_row T_ruleOf T_sortOf T_startOf T_endOf T_firstPart T_partCount T_told D_symbols D_sorts D_rules D_isOpen D_all D_length D_isFound D_foundLimit D_nodes D_types D_sortOf D_makes D_starts D_told D_row D_many D_ruleOf D_sortAt D_from D_upTo D_firsts D_parts D_variables D_order → f_law_L n L xs k (nI i) S_size S_sorts S_types S_ranks S_typeRanks R_closed R_used R_isOpen R_sorts R_all R_firsts R_newestWraps R_olderWraps W_length W_row C_queued C_usable C_starts C_severalStarts C_ends C_severalEnds C_reach C_severalReach C_found C_queue T_size M_length M_row T_ruleOf T_sortOf T_startOf T_endOf T_firstPart T_partCount T_weight T_toldBefore T_told T_rests D_symbols D_sorts D_rules D_isOpen D_all D_length D_isFound D_foundLimit D_nodes D_types D_sortOf D_makes D_starts D_told D_row D_many D_ways D_base D_ruleOf D_sortAt D_from D_upTo D_firsts D_parts D_variables D_order D_pile D_next = some 1 := by
  intro k
  induction k with
  | zero => intro i S_size S_sorts S_types S_ranks S_typeRanks R_closed R_used R_isOpen R_sorts R_all R_firsts R_newestWraps R_olderWraps W_length W_row C_queued C_usable C_starts C_severalStarts C_ends C_severalEnds C_reach C_severalReach C_found C_queue T_size M_length M_row T_ruleOf T_sortOf T_startOf T_endOf T_firstPart T_partCount T_weight T_toldBefore T_told T_rests D_symbols D_sorts D_rules D_isOpen D_all D_length D_isFound D_foundLimit D_nodes D_types D_sortOf D_makes D_starts D_told D_row D_many D_ways D_base D_ruleOf D_sortAt D_from D_upTo D_firsts D_parts D_variables D_order D_pile D_next _ h; exact absurd h (Nat.not_lt_zero _)
  | succ k ih =>
    intro i S_size S_sorts S_types S_ranks S_typeRanks R_closed R_used R_isOpen R_sorts R_all R_firsts R_newestWraps R_olderWraps W_length W_row C_queued C_usable C_starts C_severalStarts C_ends C_severalEnds C_reach C_severalReach C_found C_queue T_size M_length M_row T_ruleOf T_sortOf T_startOf T_endOf T_firstPart T_partCount T_weight T_toldBefore T_told T_rests D_symbols D_sorts D_rules D_isOpen D_all D_length D_isFound D_foundLimit D_nodes D_types D_sortOf D_makes D_starts D_told D_row D_many D_ways D_base D_ruleOf D_sortAt D_from D_upTo D_firsts D_parts D_variables D_order D_pile D_next hi hk hI
    have hI0 := hI
    obtain ⟨sz, so, ty, rk, cl, us, op, rs, fi, al, ln, rw_, hm, ha, hd, hR, hA, hD, hW, hw, hv, hca, hT⟩ := hI
    rw [f_law_L]
    by_cases hend : L < i + 5
    · rw [if_pos (by rw [l_more hL (by omega)]; exact hend)]
    · rw [if_neg (by rw [l_more hL (by omega)]; exact hend), x_gI (show i < L by omega) (by omega), nI_clamp (show i < 2 ^ 31 by omega)]
      generalize xs i &&& 15 = o
      have e1 : nI i + (1 : Int32) = nI (i + 1) := i_add i 1
      have e2 : nI i + (2 : Int32) = nI (i + 2) := i_add i 2
      have e3 : nI i + (3 : Int32) = nI (i + 3) := i_add i 3
      have e4 : nI i + (4 : Int32) = nI (i + 4) := i_add i 4
      have e5 : nI i + (5 : Int32) = nI (i + 5) := i_add i 5
      rw [e1, e2, e3, e4, e5, nI_clamp (show i + 1 < 2 ^ 31 by omega), nI_clamp (show i + 2 < 2 ^ 31 by omega), nI_clamp (show i + 3 < 2 ^ 31 by omega), nI_clamp (show i + 4 < 2 ^ 31 by omega)]
      have g1 : ∀ {α : Type} {a : Option α}, x_g (nI (i + 1)) L a = a := x_gI (show i + 1 < L by omega) (by omega)
      have g2 : ∀ {α : Type} {a : Option α}, x_g (nI (i + 2)) L a = a := x_gI (show i + 2 < L by omega) (by omega)
      have g3 : ∀ {α : Type} {a : Option α}, x_g (nI (i + 3)) L a = a := x_gI (show i + 3 < L by omega) (by omega)
      have g4 : ∀ {α : Type} {a : Option α}, x_g (nI (i + 4)) L a = a := x_gI (show i + 4 < L by omega) (by omega)
      by_cases o0 : o = 0
      · rw [if_pos o0]
        obtain ⟨v, sz', so', ty', rk', S1, S2, S3, S4, S5, D1, D2, D3, D4, D5, f1, f2, hm', ha', hd', hx, hca'⟩ := symbol_step (n := n) (D_isFound := D_isFound) hm ha hd (xs (i + 1))
        have hca2 : d_cache ty' rk' rs fi al rw_ cl so' ln D3 D_foundLimit D_many := by
          rcases hca' with ⟨y1, y2, y3, y4, y5⟩ | y
          · rw [y1, y3, y4, y5]; exact hca
          · rw [y]; exact d_cache_0
        rw [g1, f1, bind_some, g1, f2, bind_some, if_pos rfl]
        exact ih (i + 5) _ _ _ _ _ _ _ _ _ _ _ _ _ _ _ _ _ _ _ _ _ _ _ _ _ _ _ _ _ _ _ _ _ _ _ _ _ _ _ _ _ _ _ _ _ _ _ _ _ _ _ _ _ _ _ _ _ _ _ _ _ _ _ _ _ _ (by omega) (by omega) ⟨sz', so', ty', rk', cl, us, op, rs, fi, al, ln, rw_, hm', ha', hd', m_R_ext hR hx, a_R_ext hm hR hx hA, hD, ⟨hW.1, fun j hj => Nat.lt_of_lt_of_le (hW.2 j hj) hx.1⟩, hw, hv, hca2, t_tree_ext hR hx.1 hx.2.1 (fun _ _ => rfl) (fun _ _ => rfl) (fun _ _ => rfl) (Nat.le_refl _) hT⟩
      rw [if_neg o0]
      by_cases o1 : o = 1
      · rw [if_pos o1]
        obtain ⟨v, so', rk', op', rs', S1, S2, R1, R2, D1, D2, D3, D4, D5, D6, f1, f2, hm', ha', hd', hx, hR', hA', hD', hrs, hca'⟩ := begin_step (n := n) (D_isFound := D_isFound) hm ha hd hR hA hD (xs (i + 1))
        have hca2 : d_cache ty rk' rs' fi al rw_ cl so' ln D3 D_foundLimit D_many := by
          rcases hca' with ⟨y1, y2, y3⟩ | y
          · rw [y1, y2, y3]; exact d_cache_ra hR hrs (fun _ _ => rfl) hca
          · rw [y]; exact d_cache_0
        rw [g1, f1, bind_some, g1, f2, bind_some, if_pos rfl]
        exact ih (i + 5) _ _ _ _ _ _ _ _ _ _ _ _ _ _ _ _ _ _ _ _ _ _ _ _ _ _ _ _ _ _ _ _ _ _ _ _ _ _ _ _ _ _ _ _ _ _ _ _ _ _ _ _ _ _ _ _ _ _ _ _ _ _ _ _ _ _ (by omega) (by omega) ⟨sz, so', ty, rk', cl, us, op', rs', fi, al, ln, rw_, hm', ha', hd', hR', hA', hD', hW, hw, hv, hca2, t_tree_ext hR (Nat.le_refl _) (fun _ _ => rfl) hrs (fun _ _ => rfl) (fun _ _ => rfl) (Nat.le_refl _) hT⟩
      rw [if_neg o1]
      by_cases o2 : o = 2
      · rw [if_pos o2]
        obtain ⟨v, us', al', R1, R2, D1, D2, f1, f2, hR', hA', hD', hal⟩ := put_step (n := n) hn hm ha hd hR hA hD (xs (i + 1))
        rw [g1, f1, bind_some, g1, f2, bind_some, if_pos rfl]
        exact ih (i + 5) _ _ _ _ _ _ _ _ _ _ _ _ _ _ _ _ _ _ _ _ _ _ _ _ _ _ _ _ _ _ _ _ _ _ _ _ _ _ _ _ _ _ _ _ _ _ _ _ _ _ _ _ _ _ _ _ _ _ _ _ _ _ _ _ _ _ (by omega) (by omega) ⟨sz, so, ty, rk, cl, us', op, rs, fi, al', ln, rw_, hm, ha, hd, hR', hA', hD', hW, hw, hv, d_cache_ra hR (fun _ _ => rfl) hal hca, t_tree_ext hR (Nat.le_refl _) (fun _ _ => rfl) (fun _ _ => rfl) (fun _ _ => rfl) hal (Nat.le_refl _) hT⟩
      rw [if_neg o2]
      by_cases o3 : o = 3
      · rw [if_pos o3]
        obtain ⟨v, cl', op', fi', R1, R2, R3, R4, R5, D1, D2, D3, D4, f1, f2, hR', hA', hD', hcl, hfi, hca'⟩ := close_step (n := n) (D_isFound := D_isFound) hm ha hR hA hD
        have hca2 : d_cache ty rk rs fi' al rw_ cl' so ln D3 D_foundLimit D_many := by
          rcases hca' with ⟨y1, y2, y3⟩ | y
          · rw [y1, y2, y3]; exact hca
          · rw [y]; exact d_cache_0
        rw [f1, bind_some, f2, bind_some, if_pos rfl]
        exact ih (i + 5) _ _ _ _ _ _ _ _ _ _ _ _ _ _ _ _ _ _ _ _ _ _ _ _ _ _ _ _ _ _ _ _ _ _ _ _ _ _ _ _ _ _ _ _ _ _ _ _ _ _ _ _ _ _ _ _ _ _ _ _ _ _ _ _ _ _ (by omega) (by omega) ⟨sz, so, ty, rk, cl', us, op', rs, fi', al, ln, rw_, hm, ha, hd, hR', hA', hD', hW, hw, hv, hca2, t_tree_ext hR (Nat.le_refl _) (fun _ _ => rfl) (fun _ _ => rfl) hfi (fun _ _ => rfl) hcl hT⟩
      rw [if_neg o3]
      by_cases o4 : o = 4
      · rw [if_pos o4]
        obtain ⟨v, ln', rw', W1, W2, D1, D2, D3, f1, f2, hW', hw', hv', hca'⟩ := add_step (n := n) (D_isFound := D_isFound) hm.1 ha.1 hd.1 hW hw hv (xs (i + 1))
        have hca2 : d_cache ty rk rs fi al rw' cl so ln' D2 D_foundLimit D_many := by
          rcases hca' with ⟨y1, y2, y3⟩ | y
          · rw [y1, y2, y3]; exact hca
          · rw [y]; exact d_cache_0
        rw [g1, f1, bind_some, g1, f2, bind_some, if_pos rfl]
        exact ih (i + 5) _ _ _ _ _ _ _ _ _ _ _ _ _ _ _ _ _ _ _ _ _ _ _ _ _ _ _ _ _ _ _ _ _ _ _ _ _ _ _ _ _ _ _ _ _ _ _ _ _ _ _ _ _ _ _ _ _ _ _ _ _ _ _ _ _ _ (by omega) (by omega) ⟨sz, so, ty, rk, cl, us, op, rs, fi, al, ln', rw', hm, ha, hd, hR, hA, hD, hW', hw', hv', hca2, hT⟩
      rw [if_neg o4]
      by_cases o5 : o = 5
      · rw [if_pos o5]
        obtain ⟨f1, f2, hW', hw', hv'⟩ := empty_step (n := n) (sz := sz) hw hv
        rw [f1, bind_some, f2, bind_some, if_pos rfl]
        exact ih (i + 5) _ _ _ _ _ _ _ _ _ _ _ _ _ _ _ _ _ _ _ _ _ _ _ _ _ _ _ _ _ _ _ _ _ _ _ _ _ _ _ _ _ _ _ _ _ _ _ _ _ _ _ _ _ _ _ _ _ _ _ _ _ _ _ _ _ _ (by omega) (by omega) ⟨sz, so, ty, rk, cl, us, op, rs, fi, al, 0, rw_, hm, ha, hd, hR, hA, hD, hW', hw', hv', d_cache_0, hT⟩
      rw [if_neg o5]
      by_cases o6 : o = 6
      · rw [if_pos o6]
        obtain ⟨v, q1, u1, st1, sv1, en1, ev1, re1, se1, fo1, qu1, fd1, fl1, many1, ways1, base1, next1, f1, f2, hca2⟩ := trees_step (n := n) hn hm ha hd hR hA hD hW hw hv C_queued C_usable C_starts C_severalStarts C_ends C_severalEnds C_reach C_severalReach C_found C_queue D_ways D_base D_next hca (xs (i + 1)) (xs (i + 2))
        rw [g1, g2, f1, bind_some, g1, g2, f2, bind_some, if_pos rfl]
        exact ih (i + 5) _ _ _ _ _ _ _ _ _ _ _ _ _ _ _ _ _ _ _ _ _ _ _ _ _ _ _ _ _ _ _ _ _ _ _ _ _ _ _ _ _ _ _ _ _ _ _ _ _ _ _ _ _ _ _ _ _ _ _ _ _ _ _ _ _ _ (by omega) (by omega) ⟨sz, so, ty, rk, cl, us, op, rs, fi, al, ln, rw_, hm, ha, hd, hR, hA, hD, hW, hw, hv, hca2, hT⟩
      rw [if_neg o6]
      by_cases o7 : o = 7
      · rw [if_pos o7]
        obtain ⟨v, q1, u1, st1, sv1, en1, ev1, re1, se1, fo1, qu1, fd1, fl1, many1, ways1, base1, next1, f1, f2, hca2⟩ := part_step (n := n) (ways := D_ways) (base := D_base) (next := D_next) hn hm ha hd hR hA hD hW hw hv C_queued C_usable C_starts C_severalStarts C_ends C_severalEnds C_reach C_severalReach C_found C_queue hca (xs (i + 1)) (xs (i + 2)) (xs (i + 3)) (xs (i + 4))
        rw [g1, g2, g3, g4, f1, bind_some, g1, g2, g3, g4, f2, bind_some, if_pos rfl]
        exact ih (i + 5) _ _ _ _ _ _ _ _ _ _ _ _ _ _ _ _ _ _ _ _ _ _ _ _ _ _ _ _ _ _ _ _ _ _ _ _ _ _ _ _ _ _ _ _ _ _ _ _ _ _ _ _ _ _ _ _ _ _ _ _ _ _ _ _ _ _ (by omega) (by omega) ⟨sz, so, ty, rk, cl, us, op, rs, fi, al, ln, rw_, hm, ha, hd, hR, hA, hD, hW, hw, hv, hca2, hT⟩
      rw [if_neg o7]
      by_cases o8 : o = 8
      · rw [if_pos o8]
        obtain ⟨v, ml1, mr1, q1, u1, st1, sv1, en1, ev1, re1, se1, fo1, qu1, ts1, ru1, sr1, sa1, eb1, fp1, pc1, wt1, tbf1, told1, rests1, fd1, fl1, nodes1, many1, ways1, base1, du1, ds1, df1, dt1, dp1, dc1, dv1, order1, pile1, next1, f1, f2, hca2, hT2⟩ := make_step (n := n) hn hm ha hd hR hA hD hW hw hv C_queued C_usable C_starts C_severalStarts C_ends C_severalEnds C_reach C_severalReach C_found C_queue T_weight T_toldBefore T_rests D_ways D_base D_pile D_next hca hT (xs (i + 1)) (xs (i + 2))
        rw [g1, g2, f1, bind_some, g1, g2, f2, bind_some, if_pos rfl]
        exact ih (i + 5) _ _ _ _ _ _ _ _ _ _ _ _ _ _ _ _ _ _ _ _ _ _ _ _ _ _ _ _ _ _ _ _ _ _ _ _ _ _ _ _ _ _ _ _ _ _ _ _ _ _ _ _ _ _ _ _ _ _ _ _ _ _ _ _ _ _ (by omega) (by omega) ⟨sz, so, ty, rk, cl, us, op, rs, fi, al, ln, rw_, hm, ha, hd, hR, hA, hD, hW, hw, hv, hca2, hT2⟩
      rw [if_neg o8]
      by_cases o9 : o = 9
      · rw [if_pos o9]
        obtain ⟨v, f1, f2⟩ := node_step (n := n) hT (xs (i + 1)) (xs (i + 2))
        rw [g1, g2, f1, bind_some, g1, g2, f2, bind_some, if_pos rfl]
        exact ih (i + 5) _ _ _ _ _ _ _ _ _ _ _ _ _ _ _ _ _ _ _ _ _ _ _ _ _ _ _ _ _ _ _ _ _ _ _ _ _ _ _ _ _ _ _ _ _ _ _ _ _ _ _ _ _ _ _ _ _ _ _ _ _ _ _ _ _ _ (by omega) (by omega) hI0
      rw [if_neg o9]
      by_cases o10 : o = 10
      · rw [if_pos o10]
        obtain ⟨v, f1, f2⟩ := told_step (n := n) hR hT (xs (i + 1))
        rw [g1, f1, bind_some, g1, f2, bind_some, if_pos rfl]
        exact ih (i + 5) _ _ _ _ _ _ _ _ _ _ _ _ _ _ _ _ _ _ _ _ _ _ _ _ _ _ _ _ _ _ _ _ _ _ _ _ _ _ _ _ _ _ _ _ _ _ _ _ _ _ _ _ _ _ _ _ _ _ _ _ _ _ _ _ _ _ (by omega) (by omega) hI0
      rw [if_neg o10]
      by_cases o11 : o = 11
      · rw [if_pos o11]
        obtain ⟨v, f1, f2⟩ := count_step (n := n) ha hd hA hD hw hv hT (xs (i + 1))
        rw [g1, f1, bind_some, g1, f2, bind_some, if_pos rfl]
        exact ih (i + 5) _ _ _ _ _ _ _ _ _ _ _ _ _ _ _ _ _ _ _ _ _ _ _ _ _ _ _ _ _ _ _ _ _ _ _ _ _ _ _ _ _ _ _ _ _ _ _ _ _ _ _ _ _ _ _ _ _ _ _ _ _ _ _ _ _ _ (by omega) (by omega) hI0
      rw [if_neg o11]
      by_cases o12 : o = 12
      · rw [if_pos o12]
        have f1 := check_step (n := n) hn hm ha hR hA hT
        have f2 : f_Ref_check n = some 1 := rfl
        rw [f1, bind_some, f2, bind_some, if_pos rfl]
        exact ih (i + 5) _ _ _ _ _ _ _ _ _ _ _ _ _ _ _ _ _ _ _ _ _ _ _ _ _ _ _ _ _ _ _ _ _ _ _ _ _ _ _ _ _ _ _ _ _ _ _ _ _ _ _ _ _ _ _ _ _ _ _ _ _ _ _ _ _ _ (by omega) (by omega) hI0
      rw [if_neg o12]
      exact ih (i + 5) _ _ _ _ _ _ _ _ _ _ _ _ _ _ _ _ _ _ _ _ _ _ _ _ _ _ _ _ _ _ _ _ _ _ _ _ _ _ _ _ _ _ _ _ _ _ _ _ _ _ _ _ _ _ _ _ _ _ _ _ _ _ _ _ _ _ (by omega) (by omega) hI0
theorem p_initL {n : Nat} : ∀ (k i : Nat) (f : Nat → Int32), i ≤ 100 → 100 - i < k → (∀ j, j < i → f j = -1) → ∃ w f', f_Rules_init_L55 n k (nI i) f = some (w, f') ∧ ∀ j, j < 100 → f' j = -1 := by
  intro k
  induction k with
  | zero => intro i f _ h; exact absurd h (Nat.not_lt_zero _)
  | succ k ih =>
    intro i f hi hk h1
    rw [f_Rules_init_L55, show (100 : Int32) = nI 100 from rfl]
    by_cases z : 100 ≤ i
    · rw [if_pos (by rw [i_le (by omega) (by omega)]; exact z)]
      exact ⟨_, _, rfl, fun j hj => h1 j (by omega)⟩
    · rw [if_neg (by rw [i_le (by omega) (by omega)]; exact z), x_gI (show i < 100 by omega) (by decide), nI_clamp (show i < 2 ^ 31 by omega), nI_1]
      exact ih (i + 1) _ (by omega) (by omega) (fun j hj => by
        by_cases y : j = i
        · rw [y, pk_us]
        · rw [pk_un y]; exact h1 j (by omega))
theorem q_initL {n : Nat} : ∀ (k i : Nat) (f : Nat → Int32), i ≤ 1000 → 1000 - i < k → (∀ j, j < i → f j = -1) → ∃ w f', f_Ref_init_L173 n k (nI i) f = some (w, f') ∧ ∀ j, j < 1000 → f' j = -1 := by
  intro k
  induction k with
  | zero => intro i f _ h; exact absurd h (Nat.not_lt_zero _)
  | succ k ih =>
    intro i f hi hk h1
    rw [f_Ref_init_L173, show (1000 : Int32) = nI 1000 from rfl]
    by_cases z : 1000 ≤ i
    · rw [if_pos (by rw [i_le (by omega) (by omega)]; exact z)]
      exact ⟨_, _, rfl, fun j hj => h1 j (by omega)⟩
    · rw [if_neg (by rw [i_le (by omega) (by omega)]; exact z), x_gI (show i < 1000 by omega) (by decide), nI_clamp (show i < 2 ^ 31 by omega), nI_1]
      exact ih (i + 1) _ (by omega) (by omega) (fun j hj => by
        by_cases y : j = i
        · rw [y, pk_us]
        · rw [pk_un y]; exact h1 j (by omega))
/-- the law holds for each script of 2560 numbers or fewer -/
theorem law_all {n L : Nat} {xs : Nat → Int32} (hn : 40000 ≤ n) (hL : L ≤ 2560) : f_law n L xs = some 1 := by
  obtain ⟨w1, x1, a1, a2⟩ := p_initL (n := n) n 0 (fun _ => (0 : Int32)) (Nat.zero_le _) (by omega) (fun j hj => absurd hj (Nat.not_lt_zero _))
  obtain ⟨w2, x3, b1, b2⟩ := q_initL (n := n) n 0 (fun _ => (0 : Int32)) (Nat.zero_le _) (by omega) (fun j hj => absurd hj (Nat.not_lt_zero _))
  have a1' : f_Rules_init_L55 n n 0 (fun _ => (0 : Int32)) = some (w1, x1) := a1
  have b1' : f_Ref_init_L173 n n 0 (fun _ => (0 : Int32)) = some (w2, x3) := b1
  unfold f_law f_Top_init f_Rules_init f_Ref_init
  rw [a1', bind_some, bind_some, bind_some, b1', bind_some, bind_some]
  refine law_inv hn hL n 0 _ _ _ _ _ _ _ _ _ _ _ _ _ _ _ _ _ _ _ _ _ _ _ _ _ _ _ _ _ _ _ _ _ _ _ _ _ _ _ _ _ _ _ _ _ _ _ _ _ _ _ _ _ _ _ _ _ _ _ _ _ _ _ _ _ _ (Nat.zero_le _) (by omega) ⟨0, 0, fun _ => none, fun _ => none, 0, 0, false, fun _ => 0, fun _ => 0, fun _ => 0, 0, fun _ => 0, ?_, ?_, ?_, ?_, ?_, ?_, ?_, ?_, ?_, d_cache_0, ?_⟩
  · exact ⟨by omega, by omega, fun i hi => absurd hi (Nat.not_lt_zero _), fun i k h => (by cases h), fun i j k h => (by cases h)⟩
  · exact ⟨rfl, rfl, fun i hi => absurd hi (Nat.not_lt_zero _)⟩
  · exact ⟨rfl, rfl, fun i hi => absurd hi (Nat.not_lt_zero _), fun i hi => b2 i hi⟩
  · exact ⟨by omega, by omega, rfl, fun r hr => absurd hr (Nat.not_lt_zero _), Nat.le_refl _, by omega, fun _ => rfl, fun h => (by cases h), fun p hp => absurd hp (Nat.not_lt_zero _), fun r hr => (by
      rcases hr with h | h
      · exact absurd h (Nat.not_lt_zero _)
      · cases h.2)⟩
  · exact ⟨rfl, rfl, rfl, fun r hr => (by
      rcases hr with h | h
      · exact absurd h (Nat.not_lt_zero _)
      · cases h.2), fun r hr => rfl, fun p hp => absurd hp (Nat.not_lt_zero _), fun k hk => a2 k hk, fun r hr => absurd hr (Nat.not_lt_zero _)⟩
  · exact ⟨rfl, rfl, rfl, fun r hr => (by
      rcases hr with h | h
      · exact absurd h (Nat.not_lt_zero _)
      · cases h.2), fun r hr => rfl, fun p hp => absurd hp (Nat.not_lt_zero _)⟩
  · exact ⟨by omega, fun i hi => absurd hi (Nat.not_lt_zero _)⟩
  · exact ⟨rfl, fun i hi => absurd hi (Nat.not_lt_zero _)⟩
  · exact ⟨rfl, fun i hi => absurd hi (Nat.not_lt_zero _)⟩
  · exact ⟨0, fun _ => 0, fun _ => 0, fun _ => 0, fun _ => none, fun _ => 0, 0, fun _ => 0, by omega, rfl, rfl, fun i hi => absurd hi (Nat.not_lt_zero _), fun i hi => absurd hi (Nat.not_lt_zero _), fun i hi => absurd hi (Nat.not_lt_zero _), fun i hi => absurd hi (Nat.not_lt_zero _), fun i hi => absurd hi (Nat.not_lt_zero _), ⟨by omega, fun i hi => absurd hi (Nat.not_lt_zero _)⟩, rfl, fun i hi => absurd hi (Nat.not_lt_zero _)⟩
