/-! node(), told(), count(), check(), make(): class and reference alike; what stays when rules and symbols are added -/
section CG
variable {x : Nat → Nat} {vt : Nat → Option Nat} {rs rl rs' rl' : Nat → Nat} {ra ra' : Nat → Nat → Nat} {lim : Nat} {c : Nat → Nat → Nat → Nat}
theorem g_wy_ra {r : Nat} : ∀ {p i j : Nat}, (∀ q, q < p → ra r q = ra' r q) → g_wy x vt ra c r p i j = g_wy x vt ra' c r p i j
  | 0, _, _, _ => rfl
  | p + 1, i, j, h => by
    show sm j (fun k => g_wy x vt ra c r p i k * g_sp x vt c (ra r p) k j) = sm j (fun k => g_wy x vt ra' c r p i k * g_sp x vt c (ra' r p) k j)
    refine sm_congr (fun k _ => ?_)
    rw [g_wy_ra (p := p) (fun q hq => h q (by omega)), h p (Nat.lt_succ_self p)]
theorem g_F_ra (h : ∀ r, r < lim → rs r = rs' r ∧ rl r = rl' r ∧ ∀ q, q < rl r → ra r q = ra' r q) (A i j : Nat) : g_F x vt rs rl ra lim c A i j = g_F x vt rs' rl' ra' lim c A i j := by
  unfold g_F
  rw [sm_congr (fun r hr => by
    obtain ⟨h1, h2, h3⟩ := h r hr
    show (if rs r = A then g_wy x vt ra c r (rl r) i j else 0) = (if rs' r = A then g_wy x vt ra' c r (rl' r) i j else 0)
    rw [← h1, ← h2, g_wy_ra h3])]
theorem g_C_ra (h : ∀ r, r < lim → rs r = rs' r ∧ rl r = rl' r ∧ ∀ q, q < rl r → ra r q = ra' r q) (A i j : Nat) : g_C x vt rs rl ra lim A i j = g_C x vt rs' rl' ra' lim A i j := by
  refine Nat.le_antisymm (g_C_le (fun B k l hkl => ?_) A i j) (g_C_le (fun B k l hkl => ?_) A i j)
  · rw [g_F_ra h]; exact g_C_pre B k l hkl
  · rw [← g_F_ra h]; exact g_C_pre B k l hkl
end CG
section RS
variable {n sz so : Nat} {ty rk : Nat → Option Nat} {cl us : Nat} {op : Bool} {rs fi al : Nat → Nat} {S_size S_sorts : Int32} {S_types S_ranks S_typeRanks : Nat → Int32} {R_closed R_used R_isOpen : Int32} {R_sorts R_all R_firsts R_newestWraps R_olderWraps : Nat → Int32} {ln : Nat} {rw_ : Nat → Nat} {W_length : Int32} {W_row : Nat → Int32} {D_symbols D_sorts : Int32} {D_types D_sortOf : Nat → Int32} {D_rules D_isOpen D_all : Int32} {D_makes D_starts D_told : Nat → Int32} {D_length : Int32} {D_row : Nat → Int32}
/-- what the reference keeps stays right while the closed rules stay -/
theorem d_cache_ra (hR : m_R sz ty rk cl us op rs fi al) {rs' al' : Nat → Nat} (h1 : ∀ r, r < cl → rs' r = rs r) (h2 : ∀ p, p < us → al' p = al p) {D_isFound D_foundLimit : Int32} {many : Nat → Int32} (h : d_cache ty rk rs fi al rw_ cl so ln D_isFound D_foundLimit many) : d_cache ty rk rs' fi al' rw_ cl so ln D_isFound D_foundLimit many := by
  intro hf
  obtain ⟨w, a1, a2, a3⟩ := h hf
  refine ⟨w, a1, a2, ?_⟩
  have e : ∀ A i j, m_C ty rk rs' fi al' rw_ w A i j = m_C ty rk rs fi al rw_ w A i j := fun A i j => g_C_ra (fun r hr => by
    have hfu := m_fi_us hR (show r < cl by omega)
    refine ⟨?_, rfl, fun q hq => ?_⟩
    · unfold grs
      rw [h1 r (by omega)]
    · have hq' : q < fi (r + 1) - fi r := hq
      exact h2 _ (by omega)) A i j
  intro A hA i j q1 q2 q3
  rw [e]
  exact a3 A hA i j q1 q2 q3
theorem d_cache_0 {D_foundLimit : Int32} {many : Nat → Int32} : d_cache ty rk rs fi al rw_ cl so ln 0 D_foundLimit many := fun h => absurd rfl h
/-- the tree stays what it is -/
theorem t_tree_ext (hR : m_R sz ty rk cl us op rs fi al) {sz' cl' : Nat} {ty' : Nat → Option Nat} {rs' fi' al' : Nat → Nat} (h0 : sz ≤ sz') (h1 : ∀ i, i < sz → ty' i = ty i) (h2 : ∀ r, r < cl → rs' r = rs r) (h3 : ∀ r, r ≤ cl → fi' r = fi r) (h4 : ∀ p, p < us → al' p = al p) (h5 : cl ≤ cl') {M_length T_size D_nodes : Int32} {M_row T_ruleOf T_sortOf T_startOf T_endOf T_firstPart T_partCount T_told D_ruleOf D_sortAt D_from D_upTo D_firsts D_parts D_variables D_order : Nat → Int32}
    (h : t_tree sz ty rs fi al cl M_length M_row T_size T_ruleOf T_sortOf T_startOf T_endOf T_firstPart T_partCount T_told D_nodes D_ruleOf D_sortAt D_from D_upTo D_firsts D_parts D_variables D_order) : t_tree sz' ty' rs' fi' al' cl' M_length M_row T_size T_ruleOf T_sortOf T_startOf T_endOf T_firstPart T_partCount T_told D_nodes D_ruleOf D_sortAt D_from D_upTo D_firsts D_parts D_variables D_order := by
  obtain ⟨N, ns, na, nb, nr, np, mln, mrw, a1, a2, a3, a4, a5, a6, a7, a8, a9, a10⟩ := h
  refine ⟨N, ns, na, nb, nr, np, mln, mrw, a1, a2, a3, a4, a5, a6, a7, fun i hi => ?_, ⟨a9.1, fun i hi => Nat.lt_of_lt_of_le (a9.2 i hi) h0⟩, a10⟩
  obtain ⟨⟨b1, b2⟩, b3, b4, b5⟩ := a8 i hi
  refine ⟨⟨fun z => ?_, fun r z => ?_⟩, by omega, b4, b5⟩
  · rw [h1 _ (a9.2 _ (by omega))]
    exact b1 z
  · obtain ⟨c1, c2, c3, ap, c4, c5, c6⟩ := b2 r z
    have hfu := m_fi_us hR c1
    have e1 : grl fi' r = grl fi r := by
      show fi' (r + 1) - fi' r = fi (r + 1) - fi r
      rw [h3 (r + 1) (by omega), h3 r (by omega)]
    have hgl : grl fi r = fi (r + 1) - fi r := rfl
    have e2 : ∀ q, q < grl fi r → al' (fi' r + q) = al (fi r + q) := fun q hq => by
      rw [h3 r (by omega)]
      exact h4 _ (by omega)
    have e3 : ∀ q, q < grl fi r → ty' (al (fi r + q)) = ty (al (fi r + q)) := fun q hq => h1 _ (hR.2.2.2.2.2.2.2.2.1 _ (by omega))
    have e4 : ∀ q, q ≤ grl fi r → t_pc ty' fi' al' r q = t_pc ty fi al r q := fun q hq => sm_congr (fun p hp => by
      rw [e2 p (by omega), e3 p (by omega)])
    rw [e1, e4 _ (Nat.le_refl _), h2 r c1]
    refine ⟨by omega, c2, c3, ap, c4, c5, fun q hq => ?_⟩
    obtain ⟨d1, d2⟩ := c6 q hq
    unfold t_cond
    rw [e2 q hq, e3 q hq, e4 q (by omega)]
    exact ⟨d1, d2⟩
theorem node_step {M_length T_size D_nodes : Int32} {M_row T_ruleOf T_sortOf T_startOf T_endOf T_firstPart T_partCount T_told D_ruleOf D_sortAt D_from D_upTo D_firsts D_parts D_variables D_order : Nat → Int32} (h : t_tree sz ty rs fi al cl M_length M_row T_size T_ruleOf T_sortOf T_startOf T_endOf T_firstPart T_partCount T_told D_nodes D_ruleOf D_sortAt D_from D_upTo D_firsts D_parts D_variables D_order) (p1 p2 : Int32) :
    ∃ v, f_Top_node n T_size T_ruleOf T_sortOf T_startOf T_endOf T_firstPart T_partCount p1 p2 = some v ∧ f_Ref_node n D_nodes D_ruleOf D_sortAt D_from D_upTo D_firsts D_parts p1 p2 = some v := by
  obtain ⟨N, ns, na, nb, nr, np, mln, mrw, a1, a2, a3, a4, a5, a6, a7, a8, a9, a10⟩ := h
  unfold f_Top_node f_Tree_detail f_Ref_node
  rw [a2, a3]
  by_cases z : p1 < 0
  · rw [if_pos z, if_pos z]
    exact ⟨_, rfl, rfl⟩
  · rw [if_neg z, if_neg z]
    by_cases y : p1 < nI N
    · rw [if_pos y, if_pos y]
      obtain ⟨i, hi, rfl⟩ := nI_of z
      rw [i_lt (by omega) hi] at y
      obtain ⟨b1, b2, b3, b4, b5, b6⟩ := a4 i y
      obtain ⟨c1, c2, c3, c4, c5, c6⟩ := a5 i y
      rw [nI_clamp hi]
      simp only [x_gI (show i < 11700 by omega) (show 11700 < 2 ^ 31 by decide), x_gI (show i < 12000 by omega) (show 12000 < 2 ^ 31 by decide), b1, b2, b3, b4, b5, b6, c1, c2, c3, c4, c5, c6]
      by_cases q0 : p2 = 0
      · simp only [if_pos q0]; exact ⟨_, rfl, rfl⟩
      · by_cases q1 : p2 = 1
        · simp only [if_neg q0, if_pos q1]; exact ⟨_, rfl, rfl⟩
        · by_cases q2 : p2 = 2
          · simp only [if_neg q0, if_neg q1, if_pos q2]; exact ⟨_, rfl, rfl⟩
          · by_cases q3 : p2 = 3
            · simp only [if_neg q0, if_neg q1, if_neg q2, if_pos q3]; exact ⟨_, rfl, rfl⟩
            · by_cases q4 : p2 = 4
              · simp only [if_neg q0, if_neg q1, if_neg q2, if_neg q3, if_pos q4]; exact ⟨_, rfl, rfl⟩
              · by_cases q5 : p2 = 5
                · simp only [if_neg q0, if_neg q1, if_neg q2, if_neg q3, if_neg q4, if_pos q5]; exact ⟨_, rfl, rfl⟩
                · simp only [if_neg q0, if_neg q1, if_neg q2, if_neg q3, if_neg q4, if_neg q5]; exact ⟨_, rfl, rfl⟩
    · rw [if_neg y, if_neg y]
      exact ⟨_, rfl, rfl⟩
theorem told_step (hR : m_R sz ty rk cl us op rs fi al) {M_length T_size D_nodes : Int32} {M_row T_ruleOf T_sortOf T_startOf T_endOf T_firstPart T_partCount T_told D_ruleOf D_sortAt D_from D_upTo D_firsts D_parts D_variables D_order : Nat → Int32} (h : t_tree sz ty rs fi al cl M_length M_row T_size T_ruleOf T_sortOf T_startOf T_endOf T_firstPart T_partCount T_told D_nodes D_ruleOf D_sortAt D_from D_upTo D_firsts D_parts D_variables D_order) (p1 : Int32) :
    ∃ v, f_Top_told n T_size T_told p1 = some v ∧ f_Ref_told n D_nodes D_ruleOf D_variables D_order p1 = some v := by
  have hcl := hR.1
  obtain ⟨N, ns, na, nb, nr, np, mln, mrw, a1, a2, a3, a4, a5, a6, a7, a8, a9, a10⟩ := h
  unfold f_Top_told f_Tree_toldAt f_Ref_told
  rw [a2, a3]
  rcases i_any p1 (show N < 2 ^ 31 by omega) with z | z | ⟨i, hi, rfl⟩
  · rw [if_pos z, if_pos z]
    exact ⟨_, rfl, rfl⟩
  · by_cases y : p1 < 0
    · rw [if_pos y, if_pos y]
      exact ⟨_, rfl, rfl⟩
    · have y2 : ¬ p1 < nI N := fun q => by
        rw [Int32.lt_iff_toInt_lt] at q
        rw [Int32.le_iff_toInt_le] at z
        omega
      rw [if_neg y, if_neg y, if_pos z, if_neg y2]
      exact ⟨_, rfl, rfl⟩
  · obtain ⟨j, b1, b2, b3⟩ := a6 i hi
    obtain ⟨c1, -⟩ := a5 j b1
    rw [if_neg (nI_pos (by omega)), if_neg (nI_pos (by omega)), if_neg (by rw [i_le (by omega) (by omega)]; omega), if_pos (by rw [i_lt (by omega) (by omega)]; exact hi), x_gI (show i < 11700 by omega) (by decide), x_gI (show i < 12000 by omega) (by decide), nI_clamp (by omega), b2, x_gI (show j < 12000 by omega) (by decide), nI_clamp (show j < 2 ^ 31 by omega), c1, b3, bind_some]
    cases hc : nr j with
    | none =>
      have ev : t_val mrw na nr j = (-2 : Int32) - nI (mrw (na j)) := by
        unfold t_val
        rw [hc]
      rw [oI_none, if_pos rfl, x_gI (show j < 12000 by omega) (by decide), a7 j b1 hc, ev]
      exact ⟨_, rfl, rfl⟩
    | some r =>
      have ev : t_val mrw na nr j = nI r := by
        unfold t_val
        rw [hc]
      have hr := ((a8 j b1).1.2 r hc).1
      rw [oI_some, if_neg (by rw [i_m1 (by omega)]; exact id), x_gI (show j < 12000 by omega) (by decide), ev]
      exact ⟨_, rfl, rfl⟩
theorem count_step (ha : a_S sz so ty rk S_size S_sorts S_types S_ranks S_typeRanks) (hd : d_S sz so ty rk D_symbols D_sorts D_types D_sortOf) (hA : a_R ty rk cl us op rs fi al R_closed R_used R_isOpen R_sorts R_all R_firsts R_newestWraps R_olderWraps) (hD : d_R cl us op rs fi al D_rules D_isOpen D_all D_makes D_starts D_told) (hw : a_W ln rw_ W_length W_row) (hv : a_W ln rw_ D_length D_row) {M_length T_size D_nodes : Int32} {M_row T_ruleOf T_sortOf T_startOf T_endOf T_firstPart T_partCount T_told D_ruleOf D_sortAt D_from D_upTo D_firsts D_parts D_variables D_order : Nat → Int32} (h : t_tree sz ty rs fi al cl M_length M_row T_size T_ruleOf T_sortOf T_startOf T_endOf T_firstPart T_partCount T_told D_nodes D_ruleOf D_sortAt D_from D_upTo D_firsts D_parts D_variables D_order) (p1 : Int32) :
    ∃ v, f_Top_count n S_size S_sorts R_closed R_used W_length T_size p1 = some v ∧ f_Ref_count n D_symbols D_sorts D_rules D_all D_length D_nodes p1 = some v := by
  obtain ⟨N, ns, na, nb, nr, np, mln, mrw, a1, a2, a3, -⟩ := h
  unfold f_Top_count f_Ref_count f_Symbols_size f_Symbols_sorts f_Rules_closed f_Rules_used f_Row_length f_Tree_size
  rw [a2, a3, ha.1, ha.2.1, hd.1, hd.2.1, hA.1, hA.2.1, hD.1, hD.2.1, hw.1, hv.1]
  by_cases q0 : p1 = 0
  · simp only [if_pos q0]; exact ⟨_, rfl, rfl⟩
  · by_cases q1 : p1 = 1
    · simp only [if_neg q0, if_pos q1]; exact ⟨_, rfl, rfl⟩
    · by_cases q2 : p1 = 2
      · simp only [if_neg q0, if_neg q1, if_pos q2]; exact ⟨_, rfl, rfl⟩
      · by_cases q3 : p1 = 3
        · simp only [if_neg q0, if_neg q1, if_neg q2, if_pos q3]; exact ⟨_, rfl, rfl⟩
        · by_cases q4 : p1 = 4
          · simp only [if_neg q0, if_neg q1, if_neg q2, if_neg q3, if_pos q4]; exact ⟨_, rfl, rfl⟩
          · by_cases q5 : p1 = 5
            · simp only [if_neg q0, if_neg q1, if_neg q2, if_neg q3, if_neg q4, if_pos q5]; exact ⟨_, rfl, rfl⟩
            · simp only [if_neg q0, if_neg q1, if_neg q2, if_neg q3, if_neg q4, if_neg q5]; exact ⟨_, rfl, rfl⟩
/-- a node with its parts is its rule's stretch -/
theorem p_rwp (hn : 40000 ≤ n) (hm : m_S sz so ty rk) (ha : a_S sz so ty rk S_size S_sorts S_types S_ranks S_typeRanks) (hR : m_R sz ty rk cl us op rs fi al) (hA : a_R ty rk cl us op rs fi al R_closed R_used R_isOpen R_sorts R_all R_firsts R_newestWraps R_olderWraps) {N mln : Nat} {mrw ns na nb np : Nat → Nat} {nr : Nat → Option Nat} {M_length : Int32} {M_row ru sr st_ en fp pc : Nat → Int32} (hN : N ≤ 11700) (hM : m_W sz mln mrw) (hMa : a_W mln mrw M_length M_row) (tA : t_A N ns na nb nr np ru sr st_ en fp pc)
    {i r : Nat} (hi : i < N) (hnr : nr i = some r) (hr : r < cl) (hrs : rs r = ns i) (hnp : np i = t_pc ty fi al r (grl fi r)) (hns : ns i < sz) (hnb : nb i ≤ mln) (ap : Nat → Nat) (h0 : ap 0 = na i) (hL : ap (grl fi r) = nb i) (hc : ∀ q, q < grl fi r → t_cond ty fi al mrw mln (1 + sm i np) N ns na nb r ap q) :
    f_Tree_isRuleWithParts n S_size S_types R_closed R_used R_sorts R_all R_firsts M_length M_row (nI N) ru sr st_ en fp pc (nI i) = some 1 := by
  have hcl := hR.1
  have hsz := hm.1
  have h59 := hM.1
  have hfu := m_fi_us hR hr
  have hus := hR.2.1
  have h299 := (hR.2.2.2.1 r hr).2
  have hgl : grl fi r = fi (r + 1) - fi r := rfl
  obtain ⟨b1, b2, b3, b4, b5, b6⟩ := tA i hi
  have hpcle : ∀ q, q ≤ grl fi r → t_pc ty fi al r q ≤ q := fun q _ => by
    induction q with
    | zero => exact Nat.le_refl _
    | succ q ih =>
      show sm q _ + (if ty (al (fi r + q)) = none then 0 else 1) ≤ q + 1
      have := ih (by omega)
      have h' : sm q (fun q => if ty (al (fi r + q)) = none then 0 else 1) ≤ q := this
      by_cases z : ty (al (fi r + q)) = none
      · rw [if_pos z]; omega
      · rw [if_neg z]; omega
  have loop : ∀ (k q : Nat), q ≤ grl fi r → grl fi r - q < k → f_Tree_isRuleWithParts_L30 n (nI (fi r)) (nI r) (nI i) S_size S_types R_closed R_used R_sorts R_all R_firsts M_length M_row (nI N) sr st_ en fp pc k (nI q) (nI (t_pc ty fi al r q)) (nI (ap q)) = some 1 := by
    intro k
    induction k with
    | zero => intro q _ h; exact absurd h (Nat.not_lt_zero _)
    | succ k ih =>
      intro q hq hk
      rw [f_Tree_isRuleWithParts_L30, p_lengthOf hR hA hr, bind_some]
      by_cases z : grl fi r ≤ q
      · have e : q = grl fi r := by omega
        rw [if_pos (by rw [i_le (by omega) (by omega)]; exact z), p_sortOf hR hA hr, bind_some, x_gI (show i < 11700 by omega) (by decide), nI_clamp (show i < 2 ^ 31 by omega), b2, hrs, if_pos rfl, x_gI (show i < 11700 by omega) (by decide), b4, e, hL, if_pos rfl, x_gI (show i < 11700 by omega) (by decide), b6, hnp, if_pos rfl]
      · have hs : al (fi r + q) < sz := hR.2.2.2.2.2.2.2.2.1 (fi r + q) (by omega)
        obtain ⟨d1, d2⟩ := hc q (by omega)
        rw [if_neg (by rw [i_le (by omega) (by omega)]; exact z), i_add, p_symAt hA hus (by omega), bind_some, p_isV hm ha hs, bind_some]
        cases hg : ty (al (fi r + q)) with
        | none =>
          obtain ⟨e1, e2, e3⟩ := d1 hg
          have hpc : t_pc ty fi al r (q + 1) = t_pc ty fi al r q := by
            show sm q _ + (if ty (al (fi r + q)) = none then 0 else 1) = _
            rw [if_pos hg]
            rfl
          rw [if_pos rfl, if_pos rfl, p_rowAt hM hMa e2, bind_some, e3, if_pos rfl, nI_1, nI_1, ← e1, ← hpc]
          exact ih (q + 1) (by omega) (by omega)
        | some t =>
          obtain ⟨e1, e2, e3, e4⟩ := d2 t hg
          have hpc : t_pc ty fi al r (q + 1) = t_pc ty fi al r q + 1 := by
            show sm q _ + (if ty (al (fi r + q)) = none then 0 else 1) = _
            rw [if_neg (by rw [hg]; simp)]
            rfl
          have hle : t_pc ty fi al r (q + 1) ≤ t_pc ty fi al r (grl fi r) := sm_pre (by omega)
          obtain ⟨g1, g2, g3, g4, g5, g6⟩ := tA _ e1
          have ht31 := hm.ty_lt hs hg
          rw [if_neg (by simp), x_gI (show i < 11700 by omega) (by decide), nI_clamp (show i < 2 ^ 31 by omega), b5, if_neg (by omega), i_add]
          unfold f_Tree_isPart
          rw [if_neg (by rw [i_le0 (by omega)]; omega), if_neg (by rw [i_le (by omega) (by omega)]; omega), x_gI (show 1 + sm i np + t_pc ty fi al r q < 11700 by omega) (by decide), p_typeOf hm ha hs, bind_some, nI_clamp (show 1 + sm i np + t_pc ty fi al r q < 2 ^ 31 by omega), g2, hg, oI_some, e2, if_pos rfl, x_gI (show 1 + sm i np + t_pc ty fi al r q < 11700 by omega) (by decide), g3, e3, if_pos rfl, bind_some, if_neg (show ¬ (1 : Int32) = 0 by decide), x_gI (show 1 + sm i np + t_pc ty fi al r q < 11700 by omega) (by decide), g4, e4, nI_1, nI_1, ← hpc]
          exact ih (q + 1) (by omega) (by omega)
  unfold f_Tree_isRuleWithParts
  rw [x_gI (show i < 11700 by omega) (by decide), nI_clamp (show i < 2 ^ 31 by omega), b1, hnr, oI_some, p_firstOf hR hA (by omega), bind_some, x_gI (show i < 11700 by omega) (by decide), b3, ← h0]
  exact loop n 0 (Nat.zero_le _) (by omega)
theorem check_step (hn : 40000 ≤ n) (hm : m_S sz so ty rk) (ha : a_S sz so ty rk S_size S_sorts S_types S_ranks S_typeRanks) (hR : m_R sz ty rk cl us op rs fi al) (hA : a_R ty rk cl us op rs fi al R_closed R_used R_isOpen R_sorts R_all R_firsts R_newestWraps R_olderWraps) {M_length T_size D_nodes : Int32} {M_row T_ruleOf T_sortOf T_startOf T_endOf T_firstPart T_partCount T_told D_ruleOf D_sortAt D_from D_upTo D_firsts D_parts D_variables D_order : Nat → Int32} (h : t_tree sz ty rs fi al cl M_length M_row T_size T_ruleOf T_sortOf T_startOf T_endOf T_firstPart T_partCount T_told D_nodes D_ruleOf D_sortAt D_from D_upTo D_firsts D_parts D_variables D_order) :
    f_Top_check n S_size S_types R_closed R_used R_sorts R_all R_firsts M_length M_row T_size T_ruleOf T_sortOf T_startOf T_endOf T_firstPart T_partCount = some 1 := by
  have hcl := hR.1
  obtain ⟨N, ns, na, nb, nr, np, mln, mrw, a1, a2, a3, a4, a5, a6, a7, a8, a9, a10⟩ := h
  have loop : ∀ (k i : Nat), i ≤ N → N - i < k → f_Tree_holds_L2 n S_size S_types R_closed R_used R_sorts R_all R_firsts M_length M_row (nI N) T_ruleOf T_sortOf T_startOf T_endOf T_firstPart T_partCount k (nI i) = some 1 := by
    intro k
    induction k with
    | zero => intro i _ h; exact absurd h (Nat.not_lt_zero _)
    | succ k ih =>
      intro i hi hk
      rw [f_Tree_holds_L2]
      by_cases z : N ≤ i
      · rw [if_pos (by rw [i_le (by omega) (by omega)]; exact z)]
      · have hi2 : i < N := by omega
        obtain ⟨b1, b2, b3, b4, b5, b6⟩ := a4 i hi2
        obtain ⟨⟨c1, c2⟩, c3, c4, c5⟩ := a8 i hi2
        rw [if_neg (by rw [i_le (by omega) (by omega)]; exact z), x_gI (show i < 11700 by omega) (by decide), nI_clamp (show i < 2 ^ 31 by omega), b1, nI_1]
        cases hc : nr i with
        | none =>
          obtain ⟨e1, e2, e3⟩ := c1 hc
          have hal := p_alone (n := n) hm ha a9 a10 (show i < 11700 by omega) b2 b3 b4 c3 c4 c5
          rw [if_pos ⟨e1, e2⟩] at hal
          rw [oI_none, if_pos rfl, hal, bind_some, if_neg (show ¬ (1 : Int32) = 0 by decide)]
          exact ih (i + 1) (by omega) (by omega)
        | some r =>
          obtain ⟨e1, e2, e3, ap, e4, e5, e6⟩ := c2 r hc
          rw [oI_some, if_neg (by rw [i_m1 (by omega)]; exact id), p_rwp hn hm ha hR hA a1 a9 a10 a4 hi2 hc e1 e2 e3 c3 c5 ap e4 e5 e6, bind_some, if_neg (show ¬ (1 : Int32) = 0 by decide)]
          exact ih (i + 1) (by omega) (by omega)
  unfold f_Top_check f_Tree_holds
  rw [a2]
  show ((f_Tree_holds_L2 n S_size S_types R_closed R_used R_sorts R_all R_firsts M_length M_row (nI N) T_ruleOf T_sortOf T_startOf T_endOf T_firstPart T_partCount n (nI 0)).bind _) = _
  rw [loop n 0 (Nat.zero_le _) (by omega), bind_some, if_neg (show ¬ (1 : Int32) = 0 by decide)]
end RS
