/-! trees() and part(): class and reference answer alike -/
section TS
variable {n sz so : Nat} {ty rk : Nat → Option Nat} {cl us : Nat} {op : Bool} {rs fi al : Nat → Nat} {S_size S_sorts : Int32} {S_types S_ranks S_typeRanks : Nat → Int32} {R_closed R_used R_isOpen : Int32} {R_sorts R_all R_firsts R_newestWraps R_olderWraps : Nat → Int32} {ln : Nat} {rw_ : Nat → Nat} {W_length : Int32} {W_row : Nat → Int32} {D_symbols D_sorts : Int32} {D_types D_sortOf : Nat → Int32} {D_rules D_isOpen D_all : Int32} {D_makes D_starts D_told : Nat → Int32} {D_length : Int32} {D_row : Nat → Int32}
theorem q_rank0 (hm : m_S sz so ty rk) (hd : d_S sz so ty rk D_symbols D_sorts D_types D_sortOf) {j : Nat} (hj : j < sz) (hk : rk j = none) : D_sortOf (nI j).toNatClampNeg = -1 := by
  have hsz := hm.1
  rw [nI_clamp (by omega), hd.2.2.2 j (by omega), hk]
  rfl
theorem part_step (hn : 40000 ≤ n) (hm : m_S sz so ty rk) (ha : a_S sz so ty rk S_size S_sorts S_types S_ranks S_typeRanks) (hd : d_S sz so ty rk D_symbols D_sorts D_types D_sortOf) (hR : m_R sz ty rk cl us op rs fi al) (hA : a_R ty rk cl us op rs fi al R_closed R_used R_isOpen R_sorts R_all R_firsts R_newestWraps R_olderWraps) (hD : d_R cl us op rs fi al D_rules D_isOpen D_all D_makes D_starts D_told) (hW : m_W sz ln rw_) (hw : a_W ln rw_ W_length W_row) (hv : a_W ln rw_ D_length D_row)
    (C_queued C_usable : Int32) (st sv en ev reach sevR : Nat → Int64) (C_found C_queue : Nat → Int32) {D_isFound D_foundLimit : Int32} {many ways base next : Nat → Int32} (hca : d_cache ty rk rs fi al rw_ cl so ln D_isFound D_foundLimit many) (p1 p2 p3 p4 : Int32) :
    ∃ v q1 u1 st1 sv1 en1 ev1 re1 se1 fo1 qu1 fd1 fl1 many1 ways1 base1 next1, f_Top_part n S_size S_sorts S_types S_ranks S_typeRanks R_closed R_used R_sorts R_all R_firsts R_newestWraps R_olderWraps W_length W_row C_queued C_usable st sv en ev reach sevR C_found C_queue p1 p2 p3 p4 = some (v, q1, u1, st1, sv1, en1, ev1, re1, se1, fo1, qu1) ∧ f_Ref_part n D_symbols D_sorts D_rules D_length D_isFound D_foundLimit D_types D_sortOf D_makes D_starts D_told D_row many ways base next p1 p2 p3 p4 = some (v, fd1, fl1, many1, ways1, base1, next1) ∧ d_cache ty rk rs fi al rw_ cl so ln fd1 fl1 many1 := by
  have hsz := hm.1
  have h59 := hW.1
  have hcl := hR.1
  have none_ : ∀ p1 : Int32, f_Symbols_isConstant n S_size S_types p1 = some 0 → f_Ref_isConstant n D_symbols D_types p1 = some 0 → ∃ v q1 u1 st1 sv1 en1 ev1 re1 se1 fo1 qu1 fd1 fl1 many1 ways1 base1 next1, f_Top_part n S_size S_sorts S_types S_ranks S_typeRanks R_closed R_used R_sorts R_all R_firsts R_newestWraps R_olderWraps W_length W_row C_queued C_usable st sv en ev reach sevR C_found C_queue p1 p2 p3 p4 = some (v, q1, u1, st1, sv1, en1, ev1, re1, se1, fo1, qu1) ∧ f_Ref_part n D_symbols D_sorts D_rules D_length D_isFound D_foundLimit D_types D_sortOf D_makes D_starts D_told D_row many ways base next p1 p2 p3 p4 = some (v, fd1, fl1, many1, ways1, base1, next1) ∧ d_cache ty rk rs fi al rw_ cl so ln fd1 fl1 many1 := by
    intro p1 e1 e2
    unfold f_Top_part f_Ref_part
    rw [e1, e2, bind_some, bind_some, if_pos rfl, if_pos rfl]
    exact ⟨_, _, _, _, _, _, _, _, _, _, _, _, _, _, _, _, _, rfl, rfl, hca⟩
  rcases i_any p1 (show sz < 2 ^ 31 by omega) with h | h | ⟨j, hj, rfl⟩
  · exact none_ p1 (p_isC_out ha (Or.inl h)) (q_isC_out hd (Or.inl h))
  · exact none_ p1 (p_isC_out ha (Or.inr h)) (q_isC_out hd (Or.inr h))
  · have c1 := p_isC (n := n) hm ha hj
    have c2 := q_isC (n := n) hm hd hj
    by_cases hc : ty j = none
    · rw [if_pos hc] at c1 c2
      by_cases h3 : p3 < 0
      · unfold f_Top_part f_Ref_part
        rw [c1, c2, bind_some, bind_some, if_neg (show ¬ (1 : Int32) = 0 by decide), if_neg (show ¬ (1 : Int32) = 0 by decide), if_pos h3, if_pos h3]
        exact ⟨_, _, _, _, _, _, _, _, _, _, _, _, _, _, _, _, _, rfl, rfl, hca⟩
      · by_cases h4 : p4 ≤ p3
        · unfold f_Top_part f_Ref_part
          rw [c1, c2, bind_some, bind_some, if_neg (show ¬ (1 : Int32) = 0 by decide), if_neg (show ¬ (1 : Int32) = 0 by decide), if_neg h3, if_neg h3, if_pos h4, if_pos h4]
          exact ⟨_, _, _, _, _, _, _, _, _, _, _, _, _, _, _, _, _, rfl, rfl, hca⟩
        · by_cases h5 : p4 ≤ nI ln
          · obtain ⟨fr, hfr, rfl⟩ := nI_of h3
            have h6 : ¬ p4 < 0 := fun z => h4 (by
              rw [Int32.lt_iff_toInt_lt] at z
              rw [Int32.le_iff_toInt_le, nI_toInt hfr]
              have z0 : (0 : Int32).toInt = 0 := by decide
              rw [z0] at z
              omega)
            obtain ⟨to, hto, rfl⟩ := nI_of h6
            rw [i_le hfr hto] at h4
            rw [i_le (by omega) hto] at h5
            cases hk : rk j with
            | none =>
              have e1 := p_treesOf_none (n := n) (R_closed := R_closed) (R_used := R_used) (R_sorts := R_sorts) (R_all := R_all) (R_firsts := R_firsts) (R_newestWraps := R_newestWraps) (R_olderWraps := R_olderWraps) (W_length := W_length) (W_row := W_row) hm ha (show to ≤ 59 by omega) (show fr ≤ 59 by omega) hj (Or.inl hk) C_queued C_usable (nI (m_u cl p2)) st sv en ev reach sevR C_found C_queue
              unfold f_Top_part f_Ref_part
              rw [c1, c2, bind_some, bind_some, if_neg (show ¬ (1 : Int32) = 0 by decide), if_neg (show ¬ (1 : Int32) = 0 by decide), if_neg h3, if_neg h3, if_neg (by rw [i_le hfr hto]; exact h4), if_neg (by rw [i_le hfr hto]; exact h4)]
              unfold f_Row_length
              rw [bind_some, hw.1, if_pos (by rw [i_le (by omega) hto]; exact h5), hv.1, if_pos (by rw [i_le (by omega) hto]; exact h5), hA.1, p_below hcl, bind_some, x_gI (by omega) (by decide), if_pos (q_rank0 hm hd hj hk)]
              rw [hA.1, hw.1] at e1
              rw [e1, bind_some]
              exact ⟨_, _, _, _, _, _, _, _, _, _, _, _, _, _, _, _, _, rfl, rfl, hca⟩
            | some A =>
              obtain ⟨q1, st1, sv1, en1, ev1, re1, se1, fo1, qu1, e1, -⟩ := p_treesOf (n := n) hn hm ha hR hA hW hw (m_u_le hcl p2) (show fr < to by omega) h5 hj hk C_queued C_usable st sv en ev reach sevR C_found C_queue
              obtain ⟨fd, many1, ways1, base1, next1, g1, g2, g3⟩ := q_part (n := n) (ways := ways) (base := base) (next := next) hn hm hd hR hD hW hv hca p2 (show fr < to by omega) h5 hj hk
              refine ⟨_, q1, nI (m_u cl p2), st1, sv1, en1, ev1, re1, se1, fo1, qu1, fd, _, many1, ways1, base1, next1, ?_, g1, d_cache_of (m_u_le hcl p2) g3⟩
              unfold f_Top_part f_Row_length
              rw [c1, bind_some, if_neg (show ¬ (1 : Int32) = 0 by decide), if_neg h3, if_neg (by rw [i_le hfr hto]; exact h4), bind_some, hw.1, if_pos (by rw [i_le (by omega) hto]; exact h5), hA.1, p_below hcl, bind_some]
              rw [hA.1, hw.1] at e1
              rw [e1, bind_some]
          · unfold f_Top_part f_Ref_part
            rw [c1, c2, bind_some, bind_some, if_neg (show ¬ (1 : Int32) = 0 by decide), if_neg (show ¬ (1 : Int32) = 0 by decide), if_neg h3, if_neg h3, if_neg h4, if_neg h4]
            unfold f_Row_length
            rw [bind_some, hw.1, hv.1, if_neg h5, if_neg h5]
            exact ⟨_, _, _, _, _, _, _, _, _, _, _, _, _, _, _, _, _, rfl, rfl, hca⟩
    · rw [if_neg hc] at c1 c2
      exact none_ _ c1 c2
/-- what trees() answers, in the cases that make() asks for too -/
theorem trees_none (p1 p2 : Int32) (c2 : f_Ref_isConstant n D_symbols D_types p1 = some 0) (D_isFound D_foundLimit : Int32) (many ways base next : Nat → Int32) : f_Ref_trees n D_symbols D_sorts D_rules D_length D_isFound D_foundLimit D_types D_sortOf D_makes D_starts D_told D_row many ways base next p1 p2 = some (-1, D_isFound, D_foundLimit, many, ways, base, next) := by
  unfold f_Ref_trees
  rw [c2, bind_some, if_pos rfl]
theorem trees_zero (hm : m_S sz so ty rk) (hd : d_S sz so ty rk D_symbols D_sorts D_types D_sortOf) (hW : m_W sz ln rw_) (hv : a_W ln rw_ D_length D_row) {j : Nat} (hj : j < sz) (hc : ty j = none) (h0 : rk j = none ∨ ln = 0) (p2 : Int32) (D_isFound D_foundLimit : Int32) (many ways base next : Nat → Int32) : f_Ref_trees n D_symbols D_sorts D_rules D_length D_isFound D_foundLimit D_types D_sortOf D_makes D_starts D_told D_row many ways base next (nI j) p2 = some (0, D_isFound, D_foundLimit, many, ways, base, next) := by
  have hsz := hm.1
  have h59 := hW.1
  have c2 := q_isC (n := n) hm hd hj
  rw [if_pos hc] at c2
  unfold f_Ref_trees
  rw [c2, bind_some, if_neg (show ¬ (1 : Int32) = 0 by decide), hv.1]
  by_cases z : ln = 0
  · rw [if_pos (by rw [z]; rfl)]
  · have hk : rk j = none := h0.resolve_right z
    rw [if_neg (by rw [i_eq0 (by omega)]; exact z)]
    unfold f_Ref_part
    rw [c2, bind_some, if_neg (show ¬ (1 : Int32) = 0 by decide), if_neg (show ¬ (0 : Int32) < 0 by decide), if_neg (by rw [i_le0 (by omega)]; exact z), if_pos (by rw [i_le (by omega) (by omega)]; exact Nat.le_refl _), x_gI (by omega) (by decide), if_pos (q_rank0 hm hd hj hk), bind_some]
theorem trees_some (hn : 40000 ≤ n) (hm : m_S sz so ty rk) (hd : d_S sz so ty rk D_symbols D_sorts D_types D_sortOf) (hR : m_R sz ty rk cl us op rs fi al) (hD : d_R cl us op rs fi al D_rules D_isOpen D_all D_makes D_starts D_told) (hW : m_W sz ln rw_) (hv : a_W ln rw_ D_length D_row) {D_isFound D_foundLimit : Int32} {many : Nat → Int32} (ways base next : Nat → Int32) (hca : d_cache ty rk rs fi al rw_ cl so ln D_isFound D_foundLimit many) {j A : Nat} (hj : j < sz) (hk : rk j = some A) (h0 : 0 < ln) (p2 : Int32) :
    ∃ fd many1 ways1 base1 next1, f_Ref_trees n D_symbols D_sorts D_rules D_length D_isFound D_foundLimit D_types D_sortOf D_makes D_starts D_told D_row many ways base next (nI j) p2 = some (nI (m_C ty rk rs fi al rw_ (m_u cl p2) A 0 ln), fd, nI (m_u cl p2), many1, ways1, base1, next1) ∧ d_mok (m_C ty rk rs fi al rw_ (m_u cl p2)) so ln 0 many1 := by
  have hsz := hm.1
  have h59 := hW.1
  obtain ⟨-, k1, k2⟩ := hm.2.2.2.1 j A hk
  have c2 := q_isC (n := n) hm hd hj
  rw [if_pos k2] at c2
  obtain ⟨fd, many1, ways1, base1, next1, g1, g2, g3⟩ := q_part (n := n) (ways := ways) (base := base) (next := next) hn hm hd hR hD hW hv hca p2 h0 (Nat.le_refl _) hj hk
  refine ⟨fd, many1, ways1, base1, next1, ?_, g3⟩
  unfold f_Ref_trees
  rw [c2, bind_some, if_neg (show ¬ (1 : Int32) = 0 by decide), if_neg (by rw [hv.1, i_eq0 (by omega)]; omega)]
  have g2' : f_Ref_part n D_symbols D_sorts D_rules D_length D_isFound D_foundLimit D_types D_sortOf D_makes D_starts D_told D_row many ways base next (nI j) p2 0 (nI ln) = _ := g1
  rw [← hv.1] at g2'
  rw [g2', bind_some]
theorem trees_step (hn : 40000 ≤ n) (hm : m_S sz so ty rk) (ha : a_S sz so ty rk S_size S_sorts S_types S_ranks S_typeRanks) (hd : d_S sz so ty rk D_symbols D_sorts D_types D_sortOf) (hR : m_R sz ty rk cl us op rs fi al) (hA : a_R ty rk cl us op rs fi al R_closed R_used R_isOpen R_sorts R_all R_firsts R_newestWraps R_olderWraps) (hD : d_R cl us op rs fi al D_rules D_isOpen D_all D_makes D_starts D_told) (hW : m_W sz ln rw_) (hw : a_W ln rw_ W_length W_row) (hv : a_W ln rw_ D_length D_row)
    (C_queued C_usable : Int32) (st sv en ev reach sevR : Nat → Int64) (C_found C_queue : Nat → Int32) {D_isFound D_foundLimit : Int32} {many : Nat → Int32} (ways base next : Nat → Int32) (hca : d_cache ty rk rs fi al rw_ cl so ln D_isFound D_foundLimit many) (p1 p2 : Int32) :
    ∃ v q1 u1 st1 sv1 en1 ev1 re1 se1 fo1 qu1 fd1 fl1 many1 ways1 base1 next1, f_Top_trees n S_size S_sorts S_types S_ranks S_typeRanks R_closed R_used R_sorts R_all R_firsts R_newestWraps R_olderWraps W_length W_row C_queued C_usable st sv en ev reach sevR C_found C_queue p1 p2 = some (v, q1, u1, st1, sv1, en1, ev1, re1, se1, fo1, qu1) ∧ f_Ref_trees n D_symbols D_sorts D_rules D_length D_isFound D_foundLimit D_types D_sortOf D_makes D_starts D_told D_row many ways base next p1 p2 = some (v, fd1, fl1, many1, ways1, base1, next1) ∧ d_cache ty rk rs fi al rw_ cl so ln fd1 fl1 many1 := by
  have hsz := hm.1
  have h59 := hW.1
  have hcl := hR.1
  have none_ : ∀ p1 : Int32, f_Symbols_isConstant n S_size S_types p1 = some 0 → f_Ref_isConstant n D_symbols D_types p1 = some 0 → ∃ v q1 u1 st1 sv1 en1 ev1 re1 se1 fo1 qu1 fd1 fl1 many1 ways1 base1 next1, f_Top_trees n S_size S_sorts S_types S_ranks S_typeRanks R_closed R_used R_sorts R_all R_firsts R_newestWraps R_olderWraps W_length W_row C_queued C_usable st sv en ev reach sevR C_found C_queue p1 p2 = some (v, q1, u1, st1, sv1, en1, ev1, re1, se1, fo1, qu1) ∧ f_Ref_trees n D_symbols D_sorts D_rules D_length D_isFound D_foundLimit D_types D_sortOf D_makes D_starts D_told D_row many ways base next p1 p2 = some (v, fd1, fl1, many1, ways1, base1, next1) ∧ d_cache ty rk rs fi al rw_ cl so ln fd1 fl1 many1 := by
    intro p1 e1 e2
    rw [trees_none p1 p2 e2]
    unfold f_Top_trees
    rw [e1, bind_some, if_pos rfl]
    exact ⟨_, _, _, _, _, _, _, _, _, _, _, _, _, _, _, _, _, rfl, rfl, hca⟩
  rcases i_any p1 (show sz < 2 ^ 31 by omega) with h | h | ⟨j, hj, rfl⟩
  · exact none_ p1 (p_isC_out ha (Or.inl h)) (q_isC_out hd (Or.inl h))
  · exact none_ p1 (p_isC_out ha (Or.inr h)) (q_isC_out hd (Or.inr h))
  · have c1 := p_isC (n := n) hm ha hj
    have c2 := q_isC (n := n) hm hd hj
    by_cases hc : ty j = none
    · rw [if_pos hc] at c1 c2
      by_cases h0 : rk j = none ∨ ln = 0
      · rw [trees_zero hm hd hW hv hj hc h0]
        have e1 := p_treesOf_none (n := n) (R_closed := R_closed) (R_used := R_used) (R_sorts := R_sorts) (R_all := R_all) (R_firsts := R_firsts) (R_newestWraps := R_newestWraps) (R_olderWraps := R_olderWraps) (W_length := W_length) (W_row := W_row) (fr := 0) (to := ln) hm ha h59 (by omega) hj (h0.imp id (fun z => by omega)) C_queued C_usable (nI (m_u cl p2)) st sv en ev reach sevR C_found C_queue
        rw [hA.1, hw.1] at e1
        unfold f_Top_trees f_Row_length
        rw [c1, bind_some, if_neg (show ¬ (1 : Int32) = 0 by decide), hA.1, p_below hcl, bind_some, bind_some, hw.1]
        have e1' : f_Chart_treesOf n S_size S_sorts S_types S_ranks S_typeRanks (nI cl) R_used R_sorts R_all R_firsts R_newestWraps R_olderWraps (nI ln) W_row C_queued C_usable st sv en ev reach sevR C_found C_queue (nI j) (nI (m_u cl p2)) 0 (nI ln) = _ := e1
        rw [e1', bind_some]
        exact ⟨_, _, _, _, _, _, _, _, _, _, _, _, _, _, _, _, _, rfl, rfl, hca⟩
      · cases hk : rk j with
        | none => exact absurd (Or.inl hk) h0
        | some A =>
          have hln : 0 < ln := by omega
          obtain ⟨q1, st1, sv1, en1, ev1, re1, se1, fo1, qu1, e1, -⟩ := p_treesOf (n := n) hn hm ha hR hA hW hw (m_u_le hcl p2) hln (Nat.le_refl _) hj hk C_queued C_usable st sv en ev reach sevR C_found C_queue
          obtain ⟨fd, many1, ways1, base1, next1, g1, g3⟩ := trees_some (n := n) hn hm hd hR hD hW hv ways base next hca hj hk hln p2
          refine ⟨_, q1, nI (m_u cl p2), st1, sv1, en1, ev1, re1, se1, fo1, qu1, fd, _, many1, ways1, base1, next1, ?_, g1, d_cache_of (m_u_le hcl p2) g3⟩
          unfold f_Top_trees f_Row_length
          rw [c1, bind_some, if_neg (show ¬ (1 : Int32) = 0 by decide), hA.1, p_below hcl, bind_some, bind_some, hw.1]
          rw [hA.1, hw.1] at e1
          have e1' : f_Chart_treesOf n S_size S_sorts S_types S_ranks S_typeRanks (nI cl) R_used R_sorts R_all R_firsts R_newestWraps R_olderWraps (nI ln) W_row C_queued C_usable st sv en ev reach sevR C_found C_queue (nI j) (nI (m_u cl p2)) 0 (nI ln) = _ := e1
          rw [e1', bind_some]
    · rw [if_neg hc] at c1 c2
      exact none_ _ c1 c2
end TS
