/-! make(): class and reference alike -/
/-- the tree that was made, in the class and in the reference -/
def t_tree (sz : Nat) (ty : Nat → Option Nat) (rs fi al : Nat → Nat) (cl : Nat) (M_length : Int32) (M_row : Nat → Int32) (T_size : Int32) (T_ruleOf T_sortOf T_startOf T_endOf T_firstPart T_partCount T_told : Nat → Int32) (D_nodes : Int32) (D_ruleOf D_sortAt D_from D_upTo D_firsts D_parts D_variables D_order : Nat → Int32) : Prop :=
  ∃ (N : Nat) (ns na nb : Nat → Nat) (nr : Nat → Option Nat) (np : Nat → Nat) (mln : Nat) (mrw : Nat → Nat), N ≤ 11700 ∧ T_size = nI N ∧ D_nodes = nI N ∧ t_A N ns na nb nr np T_ruleOf T_sortOf T_startOf T_endOf T_firstPart T_partCount ∧ t_A N ns na nb nr np D_ruleOf D_sortAt D_from D_upTo D_firsts D_parts ∧ (∀ x, x < N → ∃ j, j < N ∧ D_order x = nI j ∧ T_told x = t_val mrw na nr j) ∧ (∀ i, i < N → nr i = none → D_variables i = nI (mrw (na i))) ∧ (∀ i, i < N → t_node ty rs fi al mrw cl mln N ns na nb nr np i ∧ ns i < sz ∧ na i < nb i ∧ nb i ≤ mln) ∧ m_W sz mln mrw ∧ a_W mln mrw M_length M_row
section MK
variable {n sz so : Nat} {ty rk : Nat → Option Nat} {cl us : Nat} {op : Bool} {rs fi al : Nat → Nat} {S_size S_sorts : Int32} {S_types S_ranks S_typeRanks : Nat → Int32} {R_closed R_used R_isOpen : Int32} {R_sorts R_all R_firsts R_newestWraps R_olderWraps : Nat → Int32} {ln : Nat} {rw_ : Nat → Nat} {W_length : Int32} {W_row : Nat → Int32} {D_symbols D_sorts : Int32} {D_types D_sortOf : Nat → Int32} {D_rules D_isOpen D_all : Int32} {D_makes D_starts D_told : Nat → Int32} {D_length : Int32} {D_row : Nat → Int32}
/-- the tree is made -/
theorem make_tree (hn : 40000 ≤ n) (hm : m_S sz so ty rk) (ha : a_S sz so ty rk S_size S_sorts S_types S_ranks S_typeRanks) (hd : d_S sz so ty rk D_symbols D_sorts D_types D_sortOf) (hR : m_R sz ty rk cl us op rs fi al) (hA : a_R ty rk cl us op rs fi al R_closed R_used R_isOpen R_sorts R_all R_firsts R_newestWraps R_olderWraps) (hD : d_R cl us op rs fi al D_rules D_isOpen D_all D_makes D_starts D_told) (hW : m_W sz ln rw_) (hw : a_W ln rw_ W_length W_row) (hv : a_W ln rw_ D_length D_row) {u : Nat} (hu : u ≤ cl) {st sv : Nat → Int64} {many : Nat → Int32}
    (hst : c_done (m_C ty rk rs fi al rw_ u) so ln 0 st sv) (hmo : d_mok (m_C ty rk rs fi al rw_ u) so ln 0 many) {j A : Nat} (hk : rk j = some A) (h0 : 0 < ln) (hC : m_C ty rk rs fi al rw_ u A 0 ln = 1)
    (M_row : Nat → Int32) (ru sr st_ en fp pc wt tbf told : Nat → Int32) (rests : Nat → Int64) (du ds df dt dp dc dv order pile next : Nat → Int32) :
    ∃ N M_row2 ru2 sr2 st2 en2 fp2 pc2 wt2 tbf2 told2 rests2 w2 du2 ds2 df2 dt2 dp2 dc2 dv2 order2 pile2 next2, f_Tree_build n S_size S_types S_typeRanks R_closed R_used R_sorts R_all R_firsts W_length W_row M_row st ru sr st_ en fp pc wt tbf told rests (nI j) (nI u) = some (nI N, nI ln, M_row2, nI N, ru2, sr2, st2, en2, fp2, pc2, wt2, tbf2, told2, rests2) ∧
      (∃ x0 y0 y1 y2 y3 y4 y5 y6, f_Ref_lay n 0 du ds df dt dp dc dv (nI j) 0 D_length = some (x0, y0, y1, y2, y3, y4, y5, y6) ∧ f_Ref_make_L29 n (nI u) D_types D_sortOf D_makes D_starts D_told D_row many n 0 x0 y0 y1 y2 y3 y4 y5 y6 = some (w2, nI N, du2, ds2, df2, dt2, dp2, dc2, dv2)) ∧ f_Ref_tell n dp2 dc2 order pile next = some (order2, pile2, next2) ∧
      t_tree sz ty rs fi al cl (nI ln) M_row2 (nI N) ru2 sr2 st2 en2 fp2 pc2 told2 (nI N) du2 ds2 df2 dt2 dp2 dc2 dv2 order2 := by
  have h59 := hW.1
  have hso := hm.2.1
  have hcl := hR.1
  have hj := (hm.2.2.2.1 j A hk).1
  obtain ⟨M_row2, c1, hM⟩ := p_copy (n := n) hn hW hw M_row
  have hpot := t_pot_1 hm hR hu h0 hk (show 0 < m_C ty rk rs fi al rw_ u A 0 ln by omega)
  have hmul : so * (2 * (ln - 0) - 1) ≤ 100 * 117 := Nat.mul_le_mul hso (by omega)
  have inv0 : t_inv so ty rk rs fi al rw_ u cl ln 0 1 (fun _ => j) (fun _ => 0) (fun _ => ln) (fun _ => none) (fun _ => 0) (upd dv 0 (-1)) := by
    refine ⟨Nat.zero_le _, fun i _ => ⟨h0, Nat.le_refl _, A, hk, hC⟩, fun i _ => ⟨rfl, rfl⟩, rfl, ?_, fun i hi => absurd hi (Nat.not_lt_zero _), fun i hi => absurd hi (Nat.not_lt_zero _)⟩
    show 0 + t_g so ty rk rs fi al rw_ u 0 (fun _ => j) (fun _ => 0) (fun _ => ln) 0 ≤ 11700
    unfold t_g
    rw [if_neg (Nat.not_lt_zero _)]
    show 0 + t_pot so ty rk rs fi al rw_ u j 0 ln ≤ 11700
    omega
  have tA0 : ∀ ru sr st_ en fp pc : Nat → Int32, t_A 1 (fun _ => j) (fun _ => 0) (fun _ => ln) (fun _ => none) (fun _ => 0) (upd ru 0 (-1)) (upd sr 0 (nI j)) (upd st_ 0 0) (upd en 0 (nI ln)) (upd fp 0 (-1)) (upd pc 0 0) := fun ru sr st_ en fp pc i hi => by
    have e : i = 0 := by omega
    subst e
    rw [pk_us, pk_us, pk_us, pk_us, pk_us, pk_us]
    exact ⟨rfl, rfl, rfl, rfl, (if_pos rfl).symm, rfl⟩
  obtain ⟨w1, w2, N, ns, na, nb, nr, np, ru2, sr2, st2, en2, fp2, pc2, du2, ds2, df2, dt2, dp2, dc2, dv2, rests2, f1, f2, f3, f4, f5, f6⟩ := build_loop (n := n) hn hm ha hd hR hA hD hW hw hM hv hu hst hmo n 0 1 _ _ _ _ _ _ _ _ _ _ _ _ _ _ _ _ _ _ rests (by omega) inv0 (tA0 ru sr st_ en fp pc) (tA0 du ds df dt dp dc) (fun i hi => absurd hi (Nat.not_lt_zero _))
  have hN := t_inv_N hm hR hu f3
  obtain ⟨i1, tok, i3, i4, i5, i6, i7⟩ := f3
  have hN0 : 0 < N := by omega
  obtain ⟨w, tb, hwt⟩ := t_wt_ex f6
  have hfp : ∀ i, i < N → fp2 i = (if np i = 0 then -1 else nI (t_nf np i)) := fun i hi => (f4 i hi).2.2.2.2.1
  have hpc : ∀ i, i < N → pc2 i = nI (np i) := fun i hi => (f4 i hi).2.2.2.2.2
  have hdp : ∀ i, i < N → dp2 i = (if np i = 0 then -1 else nI (t_nf np i)) := fun i hi => (f5 i hi).2.2.2.2.1
  have hdc : ∀ i, i < N → dc2 i = nI (np i) := fun i hi => (f5 i hi).2.2.2.2.2
  have hnp : ∀ i, i < N → np i ≤ 11700 := fun i hi => by
    have h1 : sm (i + 1) np ≤ sm N np := sm_pre (by omega)
    have h2 : sm (i + 1) np = sm i np + np i := rfl
    have h3 := f6.1
    omega
  obtain ⟨order2, pile2, next2, q1, q2⟩ := q_tell (n := n) hn hN hN0 f6 hwt hdp hdc order pile next
  have hposlt : ∀ i, i < N → tb i + w i - 1 < N := fun i hi => by
    have := t_room f6 hwt i hi
    have := t_wpos hwt hi
    omega
  have hinj : ∀ i k, i < N → k < N → tb i + w i - 1 = tb k + w k - 1 → i = k := fun i k hi hk2 he => inj_of_surj (f := fun i => tb i + w i - 1) (fun x hx => by
    obtain ⟨k, k1, k2, -⟩ := q2 x hx
    exact ⟨k, k1, k2⟩) hi hk2 he (hposlt i hi)
  obtain ⟨wt2, g1, g2⟩ := p_weigh (n := n) hn hN f6 hwt hfp hpc hnp wt
  obtain ⟨tbf2, told2, k1, k2⟩ := p_tell (n := n) hn hN hN0 f6 hwt hfp hpc hnp g2 hW hM (fun i hi => (f4 i hi).1) (fun i hi => (f4 i hi).2.2.1) (fun i hi => by have := tok i hi; omega) (fun i hi r hr => by have := ((i6 i hi).2 r hr).1; omega) hinj tbf told
  refine ⟨N, M_row2, ru2, sr2, st2, en2, fp2, pc2, wt2, tbf2, told2, rests2, w2, du2, ds2, df2, dt2, dp2, dc2, dv2, order2, pile2, next2, ?_, ⟨0 + 1, upd du 0 (-1), upd ds 0 (nI j), upd df 0 0, upd dt 0 (nI ln), upd dp 0 (-1), upd dc 0 0, upd dv 0 (-1), ?_, f2⟩, q1, ⟨N, ns, na, nb, nr, np, ln, rw_, hN, rfl, rfl, f4, f5, fun x hx => ?_, i7, fun i hi => ⟨i6 i hi, ?_, (tok i hi).1, (tok i hi).2.1⟩, hW, hM⟩⟩
  · unfold f_Tree_build
    rw [c1, bind_some]
    unfold f_Row_length f_Tree_append
    rw [bind_some, if_pos (by decide), x_gin (show vp_in 0 11700 from vp_in_nI (n := 0) (N := 11700) (by decide) (by decide)), x_gin (show vp_in 0 11700 from vp_in_nI (n := 0) (N := 11700) (by decide) (by decide)), x_gin (show vp_in 0 11700 from vp_in_nI (n := 0) (N := 11700) (by decide) (by decide)), x_gin (show vp_in 0 11700 from vp_in_nI (n := 0) (N := 11700) (by decide) (by decide)), x_gin (show vp_in 0 11700 from vp_in_nI (n := 0) (N := 11700) (by decide) (by decide)), x_gin (show vp_in 0 11700 from vp_in_nI (n := 0) (N := 11700) (by decide) (by decide)), bind_some]
    rw [hw.1] at f1 ⊢
    have f1' : f_Tree_build_L27 n (nI u) S_size S_types S_typeRanks R_closed R_used R_sorts R_all R_firsts (nI ln) W_row (nI ln) M_row2 st n 0 (0 + 1) (upd ru 0 (-1)) (upd sr 0 (nI j)) (upd st_ 0 0) (upd en 0 (nI ln)) (upd fp 0 (-1)) (upd pc 0 0) rests = some (w1, nI N, ru2, sr2, st2, en2, fp2, pc2, rests2) := f1
    show ((f_Tree_build_L27 n (nI u) S_size S_types S_typeRanks R_closed R_used R_sorts R_all R_firsts (nI ln) W_row (nI ln) M_row2 st n 0 (0 + 1) (upd ru 0 (-1)) (upd sr 0 (nI j)) (upd st_ 0 0) (upd en 0 (nI ln)) (upd fp 0 (-1)) (upd pc 0 0) rests).bind _) = _
    rw [f1', bind_some]
    show ((f_Tree_weigh n (nI N) fp2 pc2 wt).bind _) = _
    rw [g1, bind_some]
    show ((f_Tree_tell n (nI ln) M_row2 (nI N) ru2 st2 fp2 pc2 wt2 tbf told).bind _) = _
    rw [k1, bind_some]
  · unfold f_Ref_lay
    rw [x_gin (show vp_in 0 12000 from vp_in_nI (n := 0) (N := 12000) (by decide) (by decide)), x_gin (show vp_in 0 12000 from vp_in_nI (n := 0) (N := 12000) (by decide) (by decide)), x_gin (show vp_in 0 12000 from vp_in_nI (n := 0) (N := 12000) (by decide) (by decide)), x_gin (show vp_in 0 12000 from vp_in_nI (n := 0) (N := 12000) (by decide) (by decide)), x_gin (show vp_in 0 12000 from vp_in_nI (n := 0) (N := 12000) (by decide) (by decide)), x_gin (show vp_in 0 12000 from vp_in_nI (n := 0) (N := 12000) (by decide) (by decide)), x_gin (show vp_in 0 12000 from vp_in_nI (n := 0) (N := 12000) (by decide) (by decide)), hv.1]
    rfl
  · obtain ⟨i, a1, a2, a3⟩ := q2 x hx
    refine ⟨i, a1, a3, ?_⟩
    rw [← a2]
    exact k2 i a1
  · obtain ⟨-, -, B, hB, -⟩ := tok i hi
    exact (hm.2.2.2.1 _ _ hB).1
end MK
