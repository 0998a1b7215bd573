/-! make() -/
section MS
variable {n sz so : Nat} {ty rk : Nat → Option Nat} {cl us : Nat} {op : Bool} {rs fi al : Nat → Nat} {S_size S_sorts : Int32} {S_types S_ranks S_typeRanks : Nat → Int32} {R_closed R_used R_isOpen : Int32} {R_sorts R_all R_firsts R_newestWraps R_olderWraps : Nat → Int32} {ln : Nat} {rw_ : Nat → Nat} {W_length : Int32} {W_row : Nat → Int32} {D_symbols D_sorts : Int32} {D_types D_sortOf : Nat → Int32} {D_rules D_isOpen D_all : Int32} {D_makes D_starts D_told : Nat → Int32} {D_length : Int32} {D_row : Nat → Int32}
theorem make_step (hn : 40000 ≤ n) (hm : m_S sz so ty rk) (ha : a_S sz so ty rk S_size S_sorts S_types S_ranks S_typeRanks) (hd : d_S sz so ty rk D_symbols D_sorts D_types D_sortOf) (hR : m_R sz ty rk cl us op rs fi al) (hA : a_R ty rk cl us op rs fi al R_closed R_used R_isOpen R_sorts R_all R_firsts R_newestWraps R_olderWraps) (hD : d_R cl us op rs fi al D_rules D_isOpen D_all D_makes D_starts D_told) (hW : m_W sz ln rw_) (hw : a_W ln rw_ W_length W_row) (hv : a_W ln rw_ D_length D_row)
    (C_queued C_usable : Int32) (st sv en ev reach sevR : Nat → Int64) (C_found C_queue : Nat → Int32) {M_length T_size : Int32} {M_row ru sr sa eb fp pc told : Nat → Int32} (wt tbf : Nat → Int32) (rests : Nat → Int64) {D_isFound D_foundLimit D_nodes : Int32} {many : Nat → Int32} (ways base : Nat → Int32) {du ds df dt dp dc dv order : Nat → Int32} (pile next : Nat → Int32) (hca : d_cache ty rk rs fi al rw_ cl so ln D_isFound D_foundLimit many) (hT : t_tree sz ty rs fi al cl M_length M_row T_size ru sr sa eb fp pc told D_nodes du ds df dt dp dc dv order) (p1 p2 : Int32) :
    ∃ v ml1 mr1 q1 u1 st1 sv1 en1 ev1 re1 se1 fo1 qu1 ts1 ru1 sr1 sa1 eb1 fp1 pc1 wt1 tbf1 told1 rests1 fd1 fl1 nodes1 many1 ways1 base1 du1 ds1 df1 dt1 dp1 dc1 dv1 order1 pile1 next1, f_Top_make n S_size S_sorts S_types S_ranks S_typeRanks R_closed R_used R_sorts R_all R_firsts R_newestWraps R_olderWraps W_length W_row M_length M_row C_queued C_usable st sv en ev reach sevR C_found C_queue T_size ru sr sa eb fp pc wt tbf told rests p1 p2 = some (v, ml1, mr1, q1, u1, st1, sv1, en1, ev1, re1, se1, fo1, qu1, ts1, ru1, sr1, sa1, eb1, fp1, pc1, wt1, tbf1, told1, rests1) ∧ f_Ref_make n D_symbols D_sorts D_rules D_length D_isFound D_foundLimit D_nodes D_types D_sortOf D_makes D_starts D_told D_row many ways base du ds df dt dp dc dv order pile next p1 p2 = some (v, fd1, fl1, nodes1, many1, ways1, base1, du1, ds1, df1, dt1, dp1, dc1, dv1, order1, pile1, next1) ∧ d_cache ty rk rs fi al rw_ cl so ln fd1 fl1 many1 ∧ t_tree sz ty rs fi al cl ml1 mr1 ts1 ru1 sr1 sa1 eb1 fp1 pc1 told1 nodes1 du1 ds1 df1 dt1 dp1 dc1 dv1 order1 := by
  have hsz := hm.1
  have h59 := hW.1
  have hcl := hR.1
  have none_ : ∀ p1 : Int32, f_Symbols_isConstant n S_size S_types p1 = some 0 → f_Ref_isConstant n D_symbols D_types p1 = some 0 → ∃ v ml1 mr1 q1 u1 st1 sv1 en1 ev1 re1 se1 fo1 qu1 ts1 ru1 sr1 sa1 eb1 fp1 pc1 wt1 tbf1 told1 rests1 fd1 fl1 nodes1 many1 ways1 base1 du1 ds1 df1 dt1 dp1 dc1 dv1 order1 pile1 next1, f_Top_make n S_size S_sorts S_types S_ranks S_typeRanks R_closed R_used R_sorts R_all R_firsts R_newestWraps R_olderWraps W_length W_row M_length M_row C_queued C_usable st sv en ev reach sevR C_found C_queue T_size ru sr sa eb fp pc wt tbf told rests p1 p2 = some (v, ml1, mr1, q1, u1, st1, sv1, en1, ev1, re1, se1, fo1, qu1, ts1, ru1, sr1, sa1, eb1, fp1, pc1, wt1, tbf1, told1, rests1) ∧ f_Ref_make n D_symbols D_sorts D_rules D_length D_isFound D_foundLimit D_nodes D_types D_sortOf D_makes D_starts D_told D_row many ways base du ds df dt dp dc dv order pile next p1 p2 = some (v, fd1, fl1, nodes1, many1, ways1, base1, du1, ds1, df1, dt1, dp1, dc1, dv1, order1, pile1, next1) ∧ d_cache ty rk rs fi al rw_ cl so ln fd1 fl1 many1 ∧ t_tree sz ty rs fi al cl ml1 mr1 ts1 ru1 sr1 sa1 eb1 fp1 pc1 told1 nodes1 du1 ds1 df1 dt1 dp1 dc1 dv1 order1 := by
    intro p1 e1 e2
    unfold f_Top_make f_Ref_make
    rw [trees_none p1 p2 e2, bind_some, if_neg (show ¬ (-1 : Int32) = 1 by decide), hA.1, p_below hcl, bind_some, e1, bind_some, if_pos rfl]
    exact ⟨_, _, _, _, _, _, _, _, _, _, _, _, _, _, _, _, _, _, _, _, _, _, _, _, _, _, _, _, _, _, _, _, _, _, _, _, _, _, _, _, rfl, rfl, hca, hT⟩
  rcases i_any p1 (show sz < 2 ^ 31 by omega) with h | h | ⟨j, hj, rfl⟩
  · exact none_ p1 (p_isC_out ha (Or.inl h)) (q_isC_out hd (Or.inl h))
  · exact none_ p1 (p_isC_out ha (Or.inr h)) (q_isC_out hd (Or.inr h))
  · have c1 := p_isC (n := n) hm ha hj
    have c2 := q_isC (n := n) hm hd hj
    by_cases hc : ty j = none
    · rw [if_pos hc] at c1 c2
      by_cases h0 : rk j = none ∨ ln = 0
      · have e1 := p_treesOf_none (n := n) (R_closed := R_closed) (R_used := R_used) (R_sorts := R_sorts) (R_all := R_all) (R_firsts := R_firsts) (R_newestWraps := R_newestWraps) (R_olderWraps := R_olderWraps) (W_length := W_length) (W_row := W_row) (fr := 0) (to := ln) hm ha h59 (by omega) hj (h0.imp id (fun z => by omega)) C_queued C_usable (nI (m_u cl p2)) st sv en ev reach sevR C_found C_queue
        rw [hA.1, hw.1] at e1
        have e1' : f_Chart_treesOf n S_size S_sorts S_types S_ranks S_typeRanks (nI cl) R_used R_sorts R_all R_firsts R_newestWraps R_olderWraps (nI ln) W_row C_queued C_usable st sv en ev reach sevR C_found C_queue (nI j) (nI (m_u cl p2)) 0 (nI ln) = _ := e1
        unfold f_Top_make f_Ref_make
        rw [trees_zero hm hd hW hv hj hc h0, bind_some, if_neg (show ¬ (0 : Int32) = 1 by decide), hA.1, p_below hcl, bind_some, c1, bind_some, if_neg (show ¬ (1 : Int32) = 0 by decide)]
        unfold f_Row_length
        rw [bind_some, hw.1, e1', bind_some, if_neg (show ¬ (0 : Int32) = 1 by decide)]
        exact ⟨_, _, _, _, _, _, _, _, _, _, _, _, _, _, _, _, _, _, _, _, _, _, _, _, _, _, _, _, _, _, _, _, _, _, _, _, _, _, _, _, rfl, rfl, hca, hT⟩
      · cases hk : rk j with
        | none => exact absurd (Or.inl hk) h0
        | some A =>
          have hln : 0 < ln := by omega
          obtain ⟨q1, st1, sv1, en1, ev1, re1, se1, fo1, qu1, e1, hdone⟩ := p_treesOf (n := n) hn hm ha hR hA hW hw (m_u_le hcl p2) hln (Nat.le_refl _) hj hk C_queued C_usable st sv en ev reach sevR C_found C_queue
          obtain ⟨fd, many1, ways1, base1, next1, g1, g3⟩ := trees_some (n := n) hn hm hd hR hD hW hv ways base next hca hj hk hln p2
          have e0 := e1
          rw [hA.1, hw.1] at e1
          have e1' : f_Chart_treesOf n S_size S_sorts S_types S_ranks S_typeRanks (nI cl) R_used R_sorts R_all R_firsts R_newestWraps R_olderWraps (nI ln) W_row C_queued C_usable st sv en ev reach sevR C_found C_queue (nI j) (nI (m_u cl p2)) 0 (nI ln) = _ := e1
          have hC2 : m_C ty rk rs fi al rw_ (m_u cl p2) A 0 ln ≤ 2 := m_C_2 hln
          by_cases h1 : m_C ty rk rs fi al rw_ (m_u cl p2) A 0 ln = 1
          · obtain ⟨N, mr2, ru2, sr2, sa2, eb2, fp2, pc2, wt2, tbf2, told2, rests2, w2, du2, ds2, df2, dt2, dp2, dc2, dv2, order2, pile2, next2, f1, ⟨x0, y0, y1, y2, y3, y4, y5, y6, f2, f3⟩, f4, f5⟩ := make_tree (n := n) hn hm ha hd hR hA hD hW hw hv (m_u_le hcl p2) hdone g3 hk hln h1 M_row ru sr sa eb fp pc wt tbf told rests du ds df dt dp dc dv order pile next1
            refine ⟨nI N, nI ln, mr2, q1, nI (m_u cl p2), st1, sv1, en1, ev1, re1, se1, fo1, qu1, nI N, ru2, sr2, sa2, eb2, fp2, pc2, wt2, tbf2, told2, rests2, fd, nI (m_u cl p2), nI N, many1, ways1, base1, du2, ds2, df2, dt2, dp2, dc2, dv2, order2, pile2, next2, ?_, ?_, d_cache_of (m_u_le hcl p2) g3, f5⟩
            · unfold f_Top_make
              rw [hA.1, p_below hcl, bind_some, c1, bind_some, if_neg (show ¬ (1 : Int32) = 0 by decide)]
              unfold f_Row_length
              rw [bind_some, hw.1, e1', bind_some, h1, if_pos (show nI 1 = 1 from rfl)]
              rw [hA.1, hw.1] at f1
              show ((f_Tree_build n S_size S_types S_typeRanks (nI cl) R_used R_sorts R_all R_firsts (nI ln) W_row M_row st1 ru sr sa eb fp pc wt tbf told rests (nI j) (nI (m_u cl p2))).bind _) = _
              rw [f1, bind_some]
            · unfold f_Ref_make
              rw [g1, bind_some, h1, if_pos (show nI 1 = 1 from rfl)]
              rw [f2, bind_some]
              show ((f_Ref_make_L29 n (nI (m_u cl p2)) D_types D_sortOf D_makes D_starts D_told D_row many1 n 0 x0 y0 y1 y2 y3 y4 y5 y6).bind _) = _
              rw [f3, bind_some]
              show ((f_Ref_tell n dp2 dc2 order pile next1).bind _) = _
              rw [f4, bind_some]
          · have hne : ¬ nI (m_C ty rk rs fi al rw_ (m_u cl p2) A 0 ln) = 1 := fun y => h1 (by
              rw [show (1 : Int32) = nI 1 from rfl, i_eq (by decide) (by omega)] at y
              exact y)
            refine ⟨-1, M_length, M_row, q1, nI (m_u cl p2), st1, sv1, en1, ev1, re1, se1, fo1, qu1, T_size, ru, sr, sa, eb, fp, pc, wt, tbf, told, rests, fd, nI (m_u cl p2), D_nodes, many1, ways1, base1, du, ds, df, dt, dp, dc, dv, order, pile, next1, ?_, ?_, d_cache_of (m_u_le hcl p2) g3, hT⟩
            · unfold f_Top_make
              rw [hA.1, p_below hcl, bind_some, c1, bind_some, if_neg (show ¬ (1 : Int32) = 0 by decide)]
              unfold f_Row_length
              rw [bind_some, hw.1, e1', bind_some, if_neg hne]
            · unfold f_Ref_make
              rw [g1, bind_some, if_neg hne]
    · rw [if_neg hc] at c1 c2
      exact none_ _ c1 c2
end MS
