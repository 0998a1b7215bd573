def m_lw (o : Option Nat) (cl : Nat) (nw ow : Nat → Int32) : (Nat → Int32) × (Nat → Int32) := match o with
  | none => (nw, ow)
  | some k => (upd nw k (nI cl), upd ow cl (nw k))
theorem p_isRank {n k : Nat} (hk : k < 100) : f_Top_isRank n (nI k) = some 1 := by
  unfold f_Top_isRank
  rw [if_neg (nI_pos (by omega)), if_neg (by rw [i_lit, i_le (by omega) (by decide)]; omega)]
theorem p_isRank_m1 {n : Nat} : f_Top_isRank n (-1) = some 0 := by
  unfold f_Top_isRank
  rw [if_pos (by decide)]
section CL
variable {n sz so : Nat} {ty rk : Nat → Option Nat} {cl us : Nat} {op : Bool} {rs fi al : Nat → Nat} {S_size S_sorts : Int32} {S_types S_ranks S_typeRanks : Nat → Int32} {D_symbols D_sorts D_isFound : Int32} {D_types D_sortOf : Nat → Int32} {R_closed R_used R_isOpen : Int32} {R_sorts R_all R_firsts R_newestWraps R_olderWraps : Nat → Int32} {D_rules D_isOpen D_all : Int32} {D_makes D_starts D_told : Nat → Int32} {j : Nat}
theorem m_unb_close (hm : m_S sz so ty rk) {r k : Nat} (h : m_unb ty rk fi al r = some k) : k < so := by
  unfold m_unb at h
  by_cases q : fi (r + 1) = fi r + 1
  · rw [if_pos q] at h
    cases ht : ty (al (fi r)) with
    | none => rw [ht] at h; cases h
    | some t =>
      rw [ht] at h
      exact (hm.2.2.2.1 t k h).2.1
  · rw [if_neg q] at h; cases h
theorem p_linkWrap (hcl : cl < 1500) {o : Option Nat} (ho : ∀ k, o = some k → k < 100) : f_Rules_linkWrap n (nI cl) R_newestWraps R_olderWraps (oI o) = some (m_lw o cl R_newestWraps R_olderWraps) := by
  unfold f_Rules_linkWrap
  cases o with
  | none => rw [oI_none, p_isRank_m1, bind_some, if_pos rfl]; rfl
  | some k =>
    have hk := ho k rfl
    rw [oI_some, p_isRank (by omega), bind_some, if_neg (show ¬ (1 : Int32) = 0 by decide), x_gI (by omega) (by decide), x_gI (by omega) (by decide), x_gI (by omega) (by decide), nI_clamp (by omega), nI_clamp (by omega)]
    rfl
theorem close_step (hm : m_S sz so ty rk) (ha : a_S sz so ty rk S_size S_sorts S_types S_ranks S_typeRanks)
    (hR : m_R sz ty rk cl us op rs fi al) (hA : a_R ty rk cl us op rs fi al R_closed R_used R_isOpen R_sorts R_all R_firsts R_newestWraps R_olderWraps) (hD : d_R cl us op rs fi al D_rules D_isOpen D_all D_makes D_starts D_told) :
    ∃ r cl' op' fi' R_closed' R_isOpen' R_firsts' R_newestWraps' R_olderWraps' D_rules' D_isOpen' D_isFound' D_starts',
      f_Top_close n S_size S_typeRanks R_closed R_used R_isOpen R_all R_firsts R_newestWraps R_olderWraps = some (r, R_closed', R_isOpen', R_firsts', R_newestWraps', R_olderWraps') ∧
      f_Ref_close n D_rules D_isOpen D_all D_isFound D_starts = some (r, D_rules', D_isOpen', D_isFound', D_starts') ∧
      m_R sz ty rk cl' us op' rs fi' al ∧ a_R ty rk cl' us op' rs fi' al R_closed' R_used R_isOpen' R_sorts R_all R_firsts' R_newestWraps' R_olderWraps' ∧ d_R cl' us op' rs fi' al D_rules' D_isOpen' D_all D_makes D_starts' D_told ∧ cl ≤ cl' ∧ (∀ r, r ≤ cl → fi' r = fi r) ∧
      ((D_isFound' = D_isFound ∧ cl' = cl ∧ fi' = fi) ∨ D_isFound' = 0) := by
  have hs := hm.1
  have hso := hm.2.1
  obtain ⟨b1, b2, b3, b4, b5, b6, b7, b8, b9, b10⟩ := id hR
  obtain ⟨u1, u2, u3, u4, u5, u6, u7, u8⟩ := id hA
  obtain ⟨v1, v2, v3, v4, v5, v6⟩ := id hD
  unfold f_Top_close f_Rules_finish f_Ref_close
  by_cases hop : op = false
  · rw [if_pos (show R_isOpen = 0 from u3.trans (m_bI_0.mpr hop)), if_pos (show D_isOpen = 0 from v3.trans (m_bI_0.mpr hop)), bind_some, if_pos rfl]
    exact ⟨_, cl, op, fi, _, _, _, _, _, _, _, _, _, rfl, rfl, hR, hA, hD, Nat.le_refl _, fun _ _ => rfl, Or.inl ⟨rfl, rfl, rfl⟩⟩
  · have ho : op = true := by
      cases op with
      | true => rfl
      | false => exact absurd rfl hop
    have hcl := b8 ho
    rw [if_neg (show ¬ R_isOpen = 0 from fun h => hop (m_bI_0.mp (u3.symm.trans h))), if_neg (show ¬ D_isOpen = 0 from fun h => hop (m_bI_0.mp (v3.symm.trans h)))]
    have c1 : f_Rules_openLength n R_closed R_used R_firsts = some (nI (us - fi cl)) := by rw [u1, u2]; exact p_openLen b1 (u5 cl (Nat.le_refl _)) b5
    have c6 : ∀ {α : Type} (z : Option α), x_g D_rules 1501 z = z := fun z => by rw [v1]; exact x_gI (by omega) (by decide)
    have c7 : ∀ {α : Type} (z : Option α), x_g (D_rules + (1 : Int32)) 1501 z = z := fun z => by rw [v1, nI_1]; exact x_gI (by omega) (by decide)
    have c8 : ∀ {α : Type} (z : Option α), x_g (R_closed + (1 : Int32)) 1501 z = z := fun z => by rw [u1, nI_1]; exact x_gI (by omega) (by decide)
    have hst : D_starts D_rules.toNatClampNeg = nI (fi cl) := by rw [v1, nI_clamp (by omega)]; exact v5 cl (Nat.le_refl _)
    have hk1 : (R_closed + (1 : Int32)).toNatClampNeg = cl + 1 := by rw [u1, nI_1]; exact nI_clamp (by omega)
    have hk2 : (D_rules + (1 : Int32)).toNatClampNeg = cl + 1 := by rw [v1, nI_1]; exact nI_clamp (by omega)
    rw [c1]
    simp only [c6, c7, c8, bind_some, hst, hk1, hk2]
    by_cases h0 : us = fi cl
    · have e1 : nI (us - fi cl) = 0 := by rw [h0, Nat.sub_self]; rfl
      rw [if_pos e1, if_pos (by rw [v2, h0]), bind_some, if_pos rfl]
      exact ⟨_, cl, op, fi, _, _, _, _, _, _, _, _, _, rfl, rfl, hR, hA, hD, Nat.le_refl _, fun _ _ => rfl, Or.inl ⟨rfl, rfl, rfl⟩⟩
    · have e1 : ¬ nI (us - fi cl) = 0 := by rw [i_eq0 (by omega)]; omega
      have e2 : ¬ D_all = nI (fi cl) := by rw [v2, i_eq (by omega) (by omega)]; exact h0
      rw [if_neg e1, if_neg e2]
      -- the new model
      have fo : ∀ r, r ≤ cl → m_up fi (cl + 1) us r = fi r := fun r hr => m_up_n (by omega)
      have hunb : ∀ r, r < cl → m_unb ty rk (m_up fi (cl + 1) us) al r = m_unb ty rk fi al r := fun r hr => by
        unfold m_unb
        rw [fo r (by omega), fo (r + 1) (by omega)]
      have hlast : m_unb ty rk (m_up fi (cl + 1) us) al cl = if us = fi cl + 1 then (ty (al (fi cl))).bind rk else none := by
        unfold m_unb
        rw [m_up_s, fo cl (Nat.le_refl _)]
      have hmR : m_R sz ty rk (cl + 1) us false rs (m_up fi (cl + 1) us) al := by
        refine ⟨by omega, b2, by rw [fo 0 (Nat.zero_le _)]; exact b3, fun r hr => ?_, by rw [m_up_s]; exact Nat.le_refl _, by rw [m_up_s]; omega, fun _ => m_up_s.symm, fun h => (by cases h), b9, fun r hr => ?_⟩
        · by_cases z : r = cl
          · rw [z, m_up_s, fo cl (Nat.le_refl _)]; omega
          · rw [fo r (by omega), fo (r + 1) (by omega)]; exact b4 r (by omega)
        · rcases hr with hr | ⟨_, hr⟩
          · by_cases z : r = cl
            · exact b10 r (Or.inr ⟨z, ho⟩)
            · exact b10 r (Or.inl (by omega))
          · cases hr
      have hdR : d_R (cl + 1) us false rs (m_up fi (cl + 1) us) al (D_rules + 1) 0 D_all D_makes (upd D_starts (cl + 1) D_all) D_told := by
        refine ⟨by rw [v1]; exact nI_1 cl, v2, rfl, fun r hr => ?_, fun r hr => ?_, v6⟩
        · rcases hr with hr | ⟨_, hr⟩
          · by_cases z : r = cl
            · exact v4 r (Or.inr ⟨z, ho⟩)
            · exact v4 r (Or.inl (by omega))
          · cases hr
        · by_cases z : r = cl + 1
          · rw [z, m_up_s, pk_us, v2]
          · rw [m_up_n z, pk_un z]; exact v5 r (by omega)
      have haR : ∀ (nw ow : Nat → Int32), (∀ k, k < 100 → nw k = oI (m_lu ty rk (m_up fi (cl + 1) us) al (cl + 1) k)) → (∀ r, r < cl + 1 → ∀ k, m_unb ty rk (m_up fi (cl + 1) us) al r = some k → ow r = oI (m_lu ty rk (m_up fi (cl + 1) us) al r k)) →
          a_R ty rk (cl + 1) us false rs (m_up fi (cl + 1) us) al (R_closed + 1) R_used 0 R_sorts R_all (upd R_firsts (cl + 1) R_used) nw ow := by
        intro nw ow h7 h8
        refine ⟨by rw [u1]; exact nI_1 cl, u2, rfl, fun r hr => ?_, fun r hr => ?_, u6, h7, h8⟩
        · rcases hr with hr | ⟨_, hr⟩
          · by_cases z : r = cl
            · exact u4 r (Or.inr ⟨z, ho⟩)
            · exact u4 r (Or.inl (by omega))
          · cases hr
        · by_cases z : r = cl + 1
          · rw [z, m_up_s, pk_us, u2]
          · rw [m_up_n z, pk_un z]; exact u5 r (by omega)
      have old : ∀ b k, b ≤ cl → m_lu ty rk (m_up fi (cl + 1) us) al b k = m_lu ty rk fi al b k := fun b k hb => m_lu_congr (fun r hr => hunb r (by omega))
      by_cases h1 : us = fi cl + 1
      · have e3 : nI (us - fi cl) = (1 : Int32) := by rw [h1, Nat.add_sub_cancel_left]; rfl
        have hal : al (fi cl) < sz := b9 _ (by omega)
        have e4 : R_used - (1 : Int32) = nI (fi cl) := by rw [u2, h1]; exact nI_pred (fi cl)
        rw [if_pos e3, e4, x_gI (by omega) (by decide), nI_clamp (by omega), u6 (fi cl) (by omega), p_typeRankOf hm ha hal, bind_some]
        have hk100 : ∀ k, (ty (al (fi cl))).bind rk = some k → k < 100 := fun k hk => by
          have := m_unb_close (fi := m_up fi (cl + 1) us) (al := al) (r := cl) hm (by rw [hlast, if_pos h1]; exact hk)
          omega
        rw [u1, p_linkWrap hcl hk100, bind_some, bind_some, if_neg (show ¬ (1 : Int32) = 0 by decide)]
        rw [if_pos h1] at hlast
        cases hw : (ty (al (fi cl))).bind rk with
        | none =>
          rw [hw] at hlast
          refine ⟨_, cl + 1, false, m_up fi (cl + 1) us, _, _, _, _, _, _, _, _, _, rfl, rfl, hmR, ?_, hdR, by omega, fo, Or.inr rfl⟩
          rw [← u1]
          refine haR R_newestWraps R_olderWraps (fun k hk => ?_) (fun r hr k hk => ?_)
          · unfold m_lu
            rw [hlast, if_neg (fun h => by cases h), old cl k (Nat.le_refl _)]
            exact u7 k hk
          · by_cases z : r = cl
            · rw [z, hlast] at hk; cases hk
            · rw [hunb r (by omega)] at hk
              rw [old r k (by omega)]
              exact u8 r (by omega) k hk
        | some k0 =>
          rw [hw] at hlast
          have hk0 := hk100 k0 hw
          refine ⟨_, cl + 1, false, m_up fi (cl + 1) us, _, _, _, _, _, _, _, _, _, rfl, rfl, hmR, ?_, hdR, by omega, fo, Or.inr rfl⟩
          rw [← u1]
          refine haR (upd R_newestWraps k0 (nI cl)) (upd R_olderWraps cl (R_newestWraps k0)) (fun k hk => ?_) (fun r hr k hk => ?_)
          · unfold m_lu
            rw [hlast]
            by_cases z : k = k0
            · rw [z, if_pos rfl, pk_us]; rfl
            · rw [if_neg (fun h => z (Option.some.inj h).symm), pk_un z, old cl k (Nat.le_refl _)]
              exact u7 k hk
          · by_cases z : r = cl
            · rw [z, hlast] at hk
              have hk2 : k0 = k := Option.some.inj hk
              rw [z, pk_us, ← hk2, old cl k0 (Nat.le_refl _)]
              exact u7 k0 hk0
            · rw [hunb r (by omega)] at hk
              rw [pk_un z, old r k (by omega)]
              exact u8 r (by omega) k hk
      · have e3 : ¬ nI (us - fi cl) = (1 : Int32) := by rw [i_lit, i_eq (by decide) (by omega)]; omega
        rw [if_neg e3, bind_some, if_neg (show ¬ (1 : Int32) = 0 by decide)]
        rw [if_neg h1] at hlast
        refine ⟨_, cl + 1, false, m_up fi (cl + 1) us, _, _, _, _, _, _, _, _, _, rfl, rfl, hmR, ?_, hdR, by omega, fo, Or.inr rfl⟩
        refine haR _ _ (fun k hk => ?_) (fun r hr k hk => ?_)
        · unfold m_lu
          rw [hlast, if_neg (fun h => by cases h), old cl k (Nat.le_refl _)]
          exact u7 k hk
        · by_cases z : r = cl
          · rw [z, hlast] at hk; cases hk
          · rw [hunb r (by omega)] at hk
            rw [old r k (by omega)]
            exact u8 r (by omega) k hk
end CL
/-- the row -/
def m_W (sz ln : Nat) (rw_ : Nat → Nat) : Prop := ln ≤ 59 ∧ ∀ i, i < ln → rw_ i < sz
def a_W (ln : Nat) (rw_ : Nat → Nat) (W_length : Int32) (W_row : Nat → Int32) : Prop := W_length = nI ln ∧ ∀ i, i < ln → W_row i = nI (rw_ i)
section RW
variable {n sz so : Nat} {ty rk : Nat → Option Nat} {ln : Nat} {rw_ : Nat → Nat} {S_size : Int32} {D_symbols D_isFound : Int32} {W_length D_length : Int32} {W_row D_row : Nat → Int32}
theorem add_step (hs : sz ≤ 1000) (hS : S_size = nI sz) (hD : D_symbols = nI sz) (hW : m_W sz ln rw_) (ha : a_W ln rw_ W_length W_row) (hd : a_W ln rw_ D_length D_row) (a : Int32) :
    ∃ r ln' rw' W_length' W_row' D_length' D_isFound' D_row',
      f_Top_add n S_size W_length W_row a = some (r, W_length', W_row') ∧ f_Ref_add n D_symbols D_length D_isFound D_row a = some (r, D_length', D_isFound', D_row') ∧
      m_W sz ln' rw' ∧ a_W ln' rw' W_length' W_row' ∧ a_W ln' rw' D_length' D_row' ∧ ((D_isFound' = D_isFound ∧ ln' = ln ∧ rw' = rw_) ∨ D_isFound' = 0) := by
  obtain ⟨w1, w2⟩ := id hW
  have stay : ∃ r ln' rw' W_length' W_row' D_length' D_isFound' D_row', (some ((-1 : Int32), W_length, W_row) : Option (Int32 × Int32 × (Nat → Int32))) = some (r, W_length', W_row') ∧ (some ((-1 : Int32), D_length, D_isFound, D_row) : Option (Int32 × Int32 × Int32 × (Nat → Int32))) = some (r, D_length', D_isFound', D_row') ∧
      m_W sz ln' rw' ∧ a_W ln' rw' W_length' W_row' ∧ a_W ln' rw' D_length' D_row' ∧ ((D_isFound' = D_isFound ∧ ln' = ln ∧ rw' = rw_) ∨ D_isFound' = 0) :=
    ⟨_, ln, rw_, _, _, _, _, _, rfl, rfl, hW, ha, hd, Or.inl ⟨rfl, rfl, rfl⟩⟩
  unfold f_Top_add f_Ref_add f_Row_lengthen
  rw [hS, hD]
  rcases i_any a (show sz < 2 ^ 31 by omega) with h | h | ⟨j, hj, rfl⟩
  · rw [p_has_out (Or.inl h), q_isS_out (Or.inl h), bind_some, bind_some, if_pos rfl, if_pos rfl]
    exact stay
  · rw [p_has_out (Or.inr h), q_isS_out (Or.inr h), bind_some, bind_some, if_pos rfl, if_pos rfl]
    exact stay
  · rw [p_has_in hj hs, q_isS_in hj hs, bind_some, bind_some, if_neg (show ¬ (1 : Int32) = 0 by decide), if_neg (show ¬ (1 : Int32) = 0 by decide)]
    by_cases hf : ln = 59
    · rw [if_neg (by rw [ha.1, i_lit, i_lt (by decide) (by omega)]; omega), if_pos (by rw [hd.1, hf]; rfl), bind_some]
      exact stay
    · rw [if_pos (by rw [ha.1, i_lit, i_lt (by decide) (by omega)]; omega), if_neg (by rw [hd.1, i_lit, i_eq (by decide) (by omega)]; exact hf), ha.1, hd.1, x_gI (by omega) (by decide), x_gI (by omega) (by decide), bind_some, nI_1, nI_clamp (by omega)]
      refine ⟨_, ln + 1, m_up rw_ ln j, _, _, _, _, _, rfl, rfl, ⟨by omega, fun i hi => ?_⟩, ⟨rfl, fun i hi => ?_⟩, ⟨rfl, fun i hi => ?_⟩, Or.inr rfl⟩
      · by_cases z : i = ln
        · rw [z, m_up_s]; exact hj
        · rw [m_up_n z]; exact w2 i (by omega)
      · show upd W_row ln (nI j) i = _
        by_cases z : i = ln
        · rw [z, m_up_s, pk_us]
        · rw [m_up_n z, pk_un z]; exact ha.2 i (by omega)
      · show upd D_row ln (nI j) i = _
        by_cases z : i = ln
        · rw [z, m_up_s, pk_us]
        · rw [m_up_n z, pk_un z]; exact hd.2 i (by omega)
theorem empty_step (ha : a_W ln rw_ W_length W_row) (hd : a_W ln rw_ D_length D_row) :
    f_Top_empty n W_length = some (nI ln, 0) ∧ f_Ref_empty n D_length = some (nI ln, 0, 0) ∧ m_W sz 0 rw_ ∧ a_W 0 rw_ 0 W_row ∧ a_W 0 rw_ 0 D_row := by
  refine ⟨?_, ?_, ⟨by omega, fun i hi => absurd hi (Nat.not_lt_zero _)⟩, ⟨rfl, fun i hi => absurd hi (Nat.not_lt_zero _)⟩, ⟨rfl, fun i hi => absurd hi (Nat.not_lt_zero _)⟩⟩
  · unfold f_Top_empty f_Row_clear
    rw [ha.1, bind_some]
  · unfold f_Ref_empty
    rw [hd.1]
end RW
