/-! The class's weights and telling; the whole tree is built, by class and reference alike -/
/-- what is told of a node -/
def t_val (rw_ : Nat → Nat) (na : Nat → Nat) (nr : Nat → Option Nat) (i : Nat) : Int32 := match nr i with
  | none => (-2 : Int32) - nI (rw_ (na i))
  | some r => nI r
section WE
variable {n N : Nat} {np w tb : Nat → Nat} {fp pc : Nat → Int32}
theorem p_weighL20 (hN : N ≤ 11700) (hb : t_bfs N np) (hfp : ∀ i, i < N → fp i = (if np i = 0 then -1 else nI (t_nf np i))) (hpc : ∀ i, i < N → pc i = nI (np i)) (hnp : ∀ i, i < N → np i ≤ 11700) {i : Nat} (hi : i < N) :
    ∀ (k p : Nat) (wt : Nat → Int32), p ≤ np i → np i - p < k → (∀ j, i < j → j < N → wt j = nI (w j)) → wt i = nI (1 + sm p (fun q => w (t_nf np i + q))) → ∃ v wt', f_Tree_weigh_L20 n (nI i) fp pc k (nI p) wt = some (v, wt') ∧ (∀ j, i < j → j < N → wt' j = nI (w j)) ∧ wt' i = nI (1 + sm (np i) (fun q => w (t_nf np i + q))) := by
  have hnpi := hnp i hi
  intro k
  induction k with
  | zero => intro p wt _ h; exact absurd h (Nat.not_lt_zero _)
  | succ k ih =>
    intro p wt hp hk h1 h2
    rw [f_Tree_weigh_L20, x_gI (show i < 11700 by omega) (by decide), nI_clamp (show i < 2 ^ 31 by omega), hpc i hi]
    by_cases z : np i ≤ p
    · have e : p = np i := by omega
      subst e
      rw [if_pos (by rw [i_le (by omega) (by omega)]; exact z)]
      exact ⟨_, _, rfl, h1, h2⟩
    · obtain ⟨c1, c2⟩ := t_ch hb hi (show p < np i by omega)
      rw [if_neg (by rw [i_le (by omega) (by omega)]; exact z), x_gI (show i < 11700 by omega) (by decide), x_gI (show i < 11700 by omega) (by decide), hfp i hi, if_neg (by omega), i_add, x_gI (show t_nf np i + p < 11700 by omega) (by decide), x_gI (show i < 11700 by omega) (by decide), nI_clamp (show t_nf np i + p < 2 ^ 31 by omega), h1 _ c1 c2, h2, i_add, nI_1]
      exact ih (p + 1) _ (by omega) (by omega) (fun j q1 q2 => by rw [pk_un (by omega)]; exact h1 j q1 q2) (by rw [pk_us, Nat.add_assoc]; rfl)
theorem p_weigh (hn : 40000 ≤ n) (hN : N ≤ 11700) (hb : t_bfs N np) (h : t_wt N np w tb) (hfp : ∀ i, i < N → fp i = (if np i = 0 then -1 else nI (t_nf np i))) (hpc : ∀ i, i < N → pc i = nI (np i)) (hnp : ∀ i, i < N → np i ≤ 11700) (wt : Nat → Int32) : ∃ wt', f_Tree_weigh n (nI N) fp pc wt = some wt' ∧ ∀ i, i < N → wt' i = nI (w i) := by
  have loop : ∀ (k m : Nat) (wt : Nat → Int32), m ≤ N → m < k → (∀ j, m ≤ j → j < N → wt j = nI (w j)) → ∃ v wt', f_Tree_weigh_L7 n fp pc k (nI m - 1) wt = some (v, wt') ∧ ∀ j, j < N → wt' j = nI (w j) := by
    intro k
    induction k with
    | zero => intro m wt _ h; exact absurd h (Nat.not_lt_zero _)
    | succ k ih =>
      intro m wt hm hk h1
      rw [f_Tree_weigh_L7]
      by_cases z : m = 0
      · subst z
        rw [if_pos (by decide)]
        exact ⟨_, _, rfl, fun j hj => h1 j (Nat.zero_le _) hj⟩
      · obtain ⟨s, rfl⟩ : ∃ s, m = s + 1 := ⟨m - 1, by omega⟩
        rw [i_back (by omega), Nat.add_sub_cancel, if_neg (nI_pos (by omega)), x_gI (show s < 11700 by omega) (by decide), nI_clamp (show s < 2 ^ 31 by omega)]
        obtain ⟨v, wt1, f1, f2, f3⟩ := p_weighL20 (n := n) (w := w) hN hb hfp hpc hnp (show s < N by omega) n 0 (upd wt s 1) (Nat.zero_le _) (by have := hnp s (by omega); omega) (fun j q1 q2 => by rw [pk_un (by omega)]; exact h1 j (by omega) q2) (by rw [pk_us]; rfl)
        have f1' : f_Tree_weigh_L20 n (nI s) fp pc n 0 (upd wt s 1) = some (v, wt1) := f1
        rw [f1', bind_some]
        have e2 : nI s + (-1 : Int32) = nI s - (1 : Int32) := (Int32.sub_eq_add_neg _ _).symm
        rw [e2]
        refine ih s wt1 (by omega) (by omega) (fun j q1 q2 => ?_)
        by_cases y : j = s
        · rw [y, f3, ← h.1 s (by omega)]
        · exact f2 j (by omega) q2
  obtain ⟨v, wt', f1, f2⟩ := loop n N wt (Nat.le_refl _) (by omega) (fun j q1 q2 => by omega)
  refine ⟨wt', ?_, f2⟩
  unfold f_Tree_weigh
  rw [f1, bind_some]
theorem p_tellL26 (hN : N ≤ 11700) (hb : t_bfs N np) (h : t_wt N np w tb) (hfp : ∀ i, i < N → fp i = (if np i = 0 then -1 else nI (t_nf np i))) (hpc : ∀ i, i < N → pc i = nI (np i)) (hnp : ∀ i, i < N → np i ≤ 11700) {wt : Nat → Int32} (hwt : ∀ i, i < N → wt i = nI (w i)) {i : Nat} (hi : i < N) :
    ∀ (k p : Nat) (tbf : Nat → Int32), p ≤ np i → np i - p < k → (∀ j, j < t_nf np i + p → tbf j = nI (tb j)) → ∃ v tbf', f_Tree_tell_L26 n (nI i) fp pc wt k (nI p) (nI (tb i + sm p (fun q => w (t_nf np i + q)))) tbf = some (v, nI (tb i + sm (np i) (fun q => w (t_nf np i + q))), tbf') ∧ ∀ j, j < t_nf np (i + 1) → tbf' j = nI (tb j) := by
  have hnpi := hnp i hi
  intro k
  induction k with
  | zero => intro p tbf _ h; exact absurd h (Nat.not_lt_zero _)
  | succ k ih =>
    intro p tbf hp hk h1
    rw [f_Tree_tell_L26, x_gI (show i < 11700 by omega) (by decide), nI_clamp (show i < 2 ^ 31 by omega), hpc i hi]
    by_cases z : np i ≤ p
    · have e : p = np i := by omega
      subst e
      rw [if_pos (by rw [i_le (by omega) (by omega)]; exact z)]
      exact ⟨_, _, rfl, fun j hj => h1 j (by rw [t_nf_s] at hj; exact hj)⟩
    · obtain ⟨c1, c2⟩ := t_ch hb hi (show p < np i by omega)
      have hc := h.2.2 i hi p (by omega)
      rw [if_neg (by rw [i_le (by omega) (by omega)]; exact z), x_gI (show i < 11700 by omega) (by decide), hfp i hi, if_neg (by omega), i_add (t_nf np i) p, x_gI (show t_nf np i + p < 11700 by omega) (by decide), x_gI (show i < 11700 by omega) (by decide), x_gI (show t_nf np i + p < 11700 by omega) (by decide), nI_clamp (show t_nf np i + p < 2 ^ 31 by omega), hwt _ c2, i_add (tb i + sm p (fun q => w (t_nf np i + q))), nI_1, Nat.add_assoc (tb i)]
      exact ih (p + 1) (upd tbf (t_nf np i + p) (nI (tb i + sm p (fun q => w (t_nf np i + q))))) (by omega) (by omega) (fun j hj => by
        by_cases y : j = t_nf np i + p
        · rw [y, pk_us, hc]
        · rw [pk_un y]
          exact h1 j (by omega))
theorem p_tell (hn : 40000 ≤ n) (hN : N ≤ 11700) (h0 : 0 < N) (hb : t_bfs N np) (h : t_wt N np w tb) (hfp : ∀ i, i < N → fp i = (if np i = 0 then -1 else nI (t_nf np i))) (hpc : ∀ i, i < N → pc i = nI (np i)) (hnp : ∀ i, i < N → np i ≤ 11700) {wt : Nat → Int32} (hwt : ∀ i, i < N → wt i = nI (w i))
    {sz ln : Nat} {rw_ : Nat → Nat} {M_length : Int32} {M_row : Nat → Int32} (hW : m_W sz ln rw_) (hM : a_W ln rw_ M_length M_row) {na : Nat → Nat} {nr : Nat → Option Nat} {ru st_ : Nat → Int32} (hru : ∀ i, i < N → ru i = oI (nr i)) (hst : ∀ i, i < N → st_ i = nI (na i)) (hna : ∀ i, i < N → na i < ln) (hnr : ∀ i, i < N → ∀ r, nr i = some r → r < 1500) (hinj : ∀ i j, i < N → j < N → tb i + w i - 1 = tb j + w j - 1 → i = j) (tbf told : Nat → Int32) :
    ∃ tbf' told', f_Tree_tell n M_length M_row (nI N) ru st_ fp pc wt tbf told = some (tbf', told') ∧ ∀ i, i < N → told' (tb i + w i - 1) = t_val rw_ na nr i := by
  have loop : ∀ (k i : Nat) (tbf told : Nat → Int32), i ≤ N → N - i < k → (∀ j, j < t_nf np i → tbf j = nI (tb j)) → (∀ j, j < i → told (tb j + w j - 1) = t_val rw_ na nr j) → ∃ v tbf' told', f_Tree_tell_L9 n M_length M_row (nI N) ru st_ fp pc wt k (nI i) tbf told = some (v, tbf', told') ∧ ∀ j, j < N → told' (tb j + w j - 1) = t_val rw_ na nr j := by
    intro k
    induction k with
    | zero => intro i tbf told _ h; exact absurd h (Nat.not_lt_zero _)
    | succ k ih =>
      intro i tbf told hi hk h1 h2
      rw [f_Tree_tell_L9]
      by_cases z : N ≤ i
      · rw [if_pos (by rw [i_le (by omega) (by omega)]; exact z)]
        exact ⟨_, _, _, rfl, fun j hj => h2 j (by omega)⟩
      · have hi2 : i < N := by omega
        have hwi := h.1 i hi2
        have hroom := t_room hb h i hi2
        have hwp := t_wpos h hi2
        rw [if_neg (by rw [i_le (by omega) (by omega)]; exact z), x_gI (show i < 11700 by omega) (by decide), nI_clamp (show i < 2 ^ 31 by omega), h1 i (hb.2 i hi2)]
        obtain ⟨v, tbf1, f1, f2⟩ := p_tellL26 (n := n) hN hb h hfp hpc hnp hwt hi2 n 0 tbf (Nat.zero_le _) (by have := hnp i hi2; omega) (fun j hj => h1 j hj)
        have f1' : f_Tree_tell_L26 n (nI i) fp pc wt n 0 (nI (tb i)) tbf = some (v, nI (tb i + sm (np i) (fun q => w (t_nf np i + q))), tbf1) := f1
        have epos : tb i + sm (np i) (fun q => w (t_nf np i + q)) = tb i + w i - 1 := by omega
        rw [epos] at f1'
        rw [f1', bind_some, x_gI (show i < 11700 by omega) (by decide), hru i hi2, nI_1]
        have nxt : ∃ v tbf' told', f_Tree_tell_L9 n M_length M_row (nI N) ru st_ fp pc wt k (nI (i + 1)) tbf1 (upd told (tb i + w i - 1) (t_val rw_ na nr i)) = some (v, tbf', told') ∧ ∀ j, j < N → told' (tb j + w j - 1) = t_val rw_ na nr j := by
          refine ih (i + 1) tbf1 _ (by omega) (by omega) f2 (fun j hj => ?_)
          by_cases y : j = i
          · rw [y, pk_us]
          · rw [pk_un (fun x => y (hinj j i (by omega) hi2 x))]
            exact h2 j (by omega)
        cases hc : nr i with
        | none =>
          have ev : t_val rw_ na nr i = (-2 : Int32) - nI (rw_ (na i)) := by
            unfold t_val
            rw [hc]
          rw [ev] at nxt
          rw [oI_none, if_pos rfl, x_gI (show i < 11700 by omega) (by decide), hst i hi2, p_rowAt hW hM (hna i hi2), bind_some]
          show ∃ v tbf' told', x_g (nI (tb i + w i - 1)) 11700 (f_Tree_tell_L9 n M_length M_row (nI N) ru st_ fp pc wt k (nI (i + 1)) tbf1 (upd told (nI (tb i + w i - 1)).toNatClampNeg ((-2 : Int32) - nI (rw_ (na i))))) = some (v, tbf', told') ∧ _
          rw [x_gI (show tb i + w i - 1 < 11700 by omega) (by decide), nI_clamp (show tb i + w i - 1 < 2 ^ 31 by omega)]
          exact nxt
        | some r =>
          have hr := hnr i hi2 r hc
          have ev : t_val rw_ na nr i = nI r := by
            unfold t_val
            rw [hc]
          rw [ev] at nxt
          rw [oI_some, if_neg (by rw [i_m1 (by omega)]; exact id), x_gI (show i < 11700 by omega) (by decide)]
          show ∃ v tbf' told', x_g (nI (tb i + w i - 1)) 11700 (f_Tree_tell_L9 n M_length M_row (nI N) ru st_ fp pc wt k (nI (i + 1)) tbf1 (upd told (nI (tb i + w i - 1)).toNatClampNeg (nI r))) = some (v, tbf', told') ∧ _
          rw [x_gI (show tb i + w i - 1 < 11700 by omega) (by decide), nI_clamp (show tb i + w i - 1 < 2 ^ 31 by omega)]
          exact nxt
  obtain ⟨v, tbf', told', f1, f2⟩ := loop n 0 (upd tbf 0 0) told (Nat.zero_le _) (by omega) (fun j hj => by
    have : j = 0 := by
      have : t_nf np 0 = 1 := rfl
      omega
    rw [this, pk_us, h.2.1]
    rfl) (fun j hj => absurd hj (Nat.not_lt_zero _))
  refine ⟨tbf', told', ?_, f2⟩
  unfold f_Tree_tell
  rw [x_gin (show vp_in 0 11700 from vp_in_nI (n := 0) (N := 11700) (by decide) (by decide))]
  show ((f_Tree_tell_L9 n M_length M_row (nI N) ru st_ fp pc wt n (nI 0) (upd tbf 0 0) told).bind _) = _
  rw [f1, bind_some]
end WE
section BU
variable {n sz so : Nat} {ty rk : Nat → Option Nat} {cl us : Nat} {op : Bool} {rs fi al : Nat → Nat} {S_size S_sorts : Int32} {S_types S_ranks S_typeRanks : Nat → Int32} {R_closed R_used R_isOpen : Int32} {R_sorts R_all R_firsts R_newestWraps R_olderWraps : Nat → Int32} {ln : Nat} {rw_ : Nat → Nat} {W_length : Int32} {W_row : Nat → Int32} {M_row : Nat → Int32} {D_symbols D_sorts : Int32} {D_types D_sortOf : Nat → Int32} {D_rules D_isOpen D_all : Int32} {D_makes D_starts D_told : Nat → Int32} {D_length : Int32} {D_row : Nat → Int32} {u : Nat} {st sv : Nat → Int64} {many : Nat → Int32}
theorem p_copy (hn : 40000 ≤ n) (hW : m_W sz ln rw_) (hw : a_W ln rw_ W_length W_row) (M_row : Nat → Int32) : ∃ M_row', f_Row_copy n M_row W_length W_row = some (nI ln, M_row') ∧ a_W ln rw_ (nI ln) M_row' := by
  have h59 := hW.1
  have loop : ∀ (k i : Nat) (z : Nat → Int32), i ≤ ln → ln - i < k → (∀ j, j < i → z j = nI (rw_ j)) → ∃ v z', f_Row_copy_L10 n (nI ln) W_row k (nI i) z = some (v, z') ∧ ∀ j, j < ln → z' j = nI (rw_ j) := by
    intro k
    induction k with
    | zero => intro i z _ h; exact absurd h (Nat.not_lt_zero _)
    | succ k ih =>
      intro i z hi hk h1
      rw [f_Row_copy_L10]
      by_cases q : ln ≤ i
      · rw [if_pos (by rw [i_le (by omega) (by omega)]; exact q)]
        exact ⟨_, _, rfl, fun j hj => h1 j (by omega)⟩
      · rw [if_neg (by rw [i_le (by omega) (by omega)]; exact q), x_gI (show i < 59 by omega) (by decide), x_gI (show i < 59 by omega) (by decide), nI_clamp (show i < 2 ^ 31 by omega), hw.2 i (by omega), nI_1]
        exact ih (i + 1) _ (by omega) (by omega) (fun j hj => by
          by_cases y : j = i
          · rw [y, pk_us]
          · rw [pk_un y]; exact h1 j (by omega))
  obtain ⟨v, z', f1, f2⟩ := loop n 0 M_row (Nat.zero_le _) (by omega) (fun j hj => absurd hj (Nat.not_lt_zero _))
  refine ⟨z', ?_, rfl, f2⟩
  unfold f_Row_copy
  rw [hw.1]
  show ((f_Row_copy_L10 n (nI ln) W_row n (nI 0) M_row).bind _) = _
  rw [f1, bind_some]
theorem build_loop (hn : 40000 ≤ n) (hm : m_S sz so ty rk) (ha : a_S sz so ty rk S_size S_sorts S_types S_ranks S_typeRanks) (hd : d_S sz so ty rk D_symbols D_sorts D_types D_sortOf) (hR : m_R sz ty rk cl us op rs fi al) (hA : a_R ty rk cl us op rs fi al R_closed R_used R_isOpen R_sorts R_all R_firsts R_newestWraps R_olderWraps) (hD : d_R cl us op rs fi al D_rules D_isOpen D_all D_makes D_starts D_told) (hW : m_W sz ln rw_) (hw : a_W ln rw_ W_length W_row) (hM : a_W ln rw_ (nI ln) M_row) (hv : a_W ln rw_ D_length D_row) (hu : u ≤ cl)
    (hst : c_done (m_C ty rk rs fi al rw_ u) so ln 0 st sv) (hmo : d_mok (m_C ty rk rs fi al rw_ u) so ln 0 many) :
    ∀ (k K N : Nat) (ns na nb : Nat → Nat) (nr : Nat → Option Nat) (np : Nat → Nat) (ru sr st_ en fp pc du ds df dt dp dc dv : Nat → Int32) (rests : Nat → Int64), 11701 - K < k → t_inv so ty rk rs fi al rw_ u cl ln K N ns na nb nr np dv → t_A N ns na nb nr np ru sr st_ en fp pc → t_A N ns na nb nr np du ds df dt dp dc → (∀ i, i < K → i < t_nf np i) →
      ∃ w1 w2 N2 ns2 na2 nb2 nr2 np2 ru2 sr2 st2 en2 fp2 pc2 du2 ds2 df2 dt2 dp2 dc2 dv2 rests2, f_Tree_build_L27 n (nI u) S_size S_types S_typeRanks R_closed R_used R_sorts R_all R_firsts W_length W_row (nI ln) M_row st k (nI K) (nI N) ru sr st_ en fp pc rests = some (w1, nI N2, ru2, sr2, st2, en2, fp2, pc2, rests2) ∧ f_Ref_make_L29 n (nI u) D_types D_sortOf D_makes D_starts D_told D_row many k (nI K) (nI N) du ds df dt dp dc dv = some (w2, nI N2, du2, ds2, df2, dt2, dp2, dc2, dv2) ∧
        t_inv so ty rk rs fi al rw_ u cl ln N2 N2 ns2 na2 nb2 nr2 np2 dv2 ∧ t_A N2 ns2 na2 nb2 nr2 np2 ru2 sr2 st2 en2 fp2 pc2 ∧ t_A N2 ns2 na2 nb2 nr2 np2 du2 ds2 df2 dt2 dp2 dc2 ∧ t_bfs N2 np2 := by
  intro k
  induction k with
  | zero => intro K N ns na nb nr np ru sr st_ en fp pc du ds df dt dp dc dv rests h; exact absurd h (Nat.not_lt_zero _)
  | succ k ih =>
    intro K N ns na nb nr np ru sr st_ en fp pc du ds df dt dp dc dv rests hk hi tA tD hbf
    have hN := t_inv_N hm hR hu hi
    have hKN := hi.1
    rw [f_Tree_build_L27, f_Ref_make_L29]
    by_cases z : N ≤ K
    · have e : K = N := by omega
      subst e
      rw [if_pos (by rw [i_le (by omega) (by omega)]; exact z), if_pos (by rw [i_le (by omega) (by omega)]; exact z)]
      exact ⟨_, _, K, ns, na, nb, nr, np, ru, sr, st_, en, fp, pc, du, ds, df, dt, dp, dc, dv, rests, rfl, rfl, hi, tA, tD, hi.2.2.2.1, hbf⟩
    · rw [if_neg (by rw [i_le (by omega) (by omega)]; exact z), if_neg (show ¬ (11700 : Int32) ≤ nI K by rw [show (11700 : Int32) = nI 11700 from rfl, i_le (by omega) (by decide)]; omega), if_neg (by rw [i_le (by omega) (by omega)]; exact z)]
      obtain ⟨N2, ns2, na2, nb2, nr2, np2, ru2, sr2, st2, en2, fp2, pc2, du2, ds2, df2, dt2, dp2, dc2, dv2, rests2, f1, f2, f3, f4, f5, f6⟩ := grow_step (n := n) hn hm ha hd hR hA hD hW hw hM hv hu hst hmo (show K < N by omega) rests hi tA tD
      rw [f1, f2, bind_some, bind_some, nI_1]
      refine ih (K + 1) N2 ns2 na2 nb2 nr2 np2 ru2 sr2 st2 en2 fp2 pc2 du2 ds2 df2 dt2 dp2 dc2 dv2 rests2 (by omega) f3 f4 f5 (fun i hi2 => ?_)
      have e : t_nf np2 i = t_nf np i := by
        show 1 + sm i np2 = 1 + sm i np
        rw [sm_congr (fun j hj => f6 j (by omega))]
      rw [e]
      by_cases y : i = K
      · rw [y]
        have := hi.2.2.2.1
        show K < 1 + sm K np
        omega
      · exact hbf i (by omega)
end BU
