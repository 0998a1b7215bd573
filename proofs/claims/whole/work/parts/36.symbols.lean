/-! symbol(), by class and reference -/
section SY
variable {n sz so : Nat} {ty rk : Nat → Option Nat} {S_size S_sorts : Int32} {S_types S_ranks S_typeRanks : Nat → Int32} {D_symbols D_sorts D_isFound : Int32} {D_types D_sortOf : Nat → Int32} {a : Int32} {j : Nat}
theorem a_S_sort (ha : a_S sz so ty rk S_size S_sorts S_types S_ranks S_typeRanks) (hm : m_S sz so ty rk) (hj : j < sz) (hq : rk j = none) (hc : ty j = none) (hso : so < 100) :
    a_S sz (so + 1) ty (m_rk so rk j) S_size (S_sorts + 1) S_types (upd S_ranks j S_sorts) S_typeRanks := by
  obtain ⟨h1, h2, h3⟩ := ha
  refine ⟨h1, by rw [h2]; exact nI_1 so, fun i hi => ?_⟩
  obtain ⟨b1, b2, b3⟩ := h3 i hi
  refine ⟨b1, ?_, ?_⟩
  · unfold m_rk
    by_cases z : i = j
    · rw [z, pk_us, if_pos ⟨rfl, hq⟩, h2, oI_some]
    · rw [pk_un z, if_neg (fun w => z w.1), b2]
  · rw [b3]
    cases ht : ty i with
    | none => rfl
    | some t =>
      show oI (rk t) = oI (m_rk so rk j t)
      obtain ⟨-, -, k, hk⟩ := hm.2.2.1 i hi t ht
      rw [m_rk_old hk, hk]
/-- becomesSort of the class -/
theorem p_becomes (hm : m_S sz so ty rk) (ha : a_S sz so ty rk S_size S_sorts S_types S_ranks S_typeRanks) (hj : j < sz) :
    ∃ S_sorts' S_ranks', f_Symbols_becomesSort n S_size S_sorts S_types S_ranks (nI j) = some (if ty j = none ∧ (rk j ≠ none ∨ so < 100) then 1 else 0, S_sorts', S_ranks') ∧
      (m_can so ty rk j → a_S sz (m_so so rk j) ty (m_rk so rk j) S_size S_sorts' S_types S_ranks' S_typeRanks) ∧ (¬ m_can so ty rk j → S_sorts' = S_sorts ∧ S_ranks' = S_ranks) := by
  have hs := hm.1
  have hso := hm.2.1
  have hin : ∀ {α : Type} (z : Option α), x_g (nI j) 1000 z = z := fun z => x_gI (by omega) (by decide)
  have hcl : (nI j).toNatClampNeg = j := nI_clamp (by omega)
  unfold f_Symbols_becomesSort
  rw [p_isC hm ha hj, bind_some]
  by_cases hc : ty j = none
  · rw [if_pos hc, if_neg (by decide)]
    simp only [hin, hcl, (ha.2.2 j hj).2.1]
    by_cases hq : rk j = none
    · rw [if_pos ((hm.rk_m1 j).mpr hq)]
      by_cases hf : so < 100
      · rw [if_neg (by rw [ha.2.1, i_lit, i_le (by omega) (by decide)]; omega), pk_us, if_neg (by rw [ha.2.1, i_m1 (by omega)]; exact id), if_pos ⟨hc, Or.inr hf⟩]
        refine ⟨_, _, rfl, fun _ => ?_, fun z => absurd ⟨hc, Or.inr hf⟩ z⟩
        have e : m_so so rk j = so + 1 := if_pos hq
        rw [e]
        exact a_S_sort ha hm hj hq hc hf
      · rw [if_pos (by rw [ha.2.1, i_lit, i_le (by omega) (by decide)]; omega), if_pos ((hm.rk_m1 j).mpr hq), if_neg (fun z => z.2.elim (fun w => w hq) hf)]
        exact ⟨_, _, rfl, fun z => absurd z.2 (fun w => w.elim (fun v => v hq) hf), fun _ => ⟨rfl, rfl⟩⟩
    · rw [if_neg (fun z => hq ((hm.rk_m1 j).mp z)), if_neg (fun z => hq ((hm.rk_m1 j).mp z)), if_pos ⟨hc, Or.inl hq⟩]
      refine ⟨_, _, rfl, fun _ => ?_, fun z => absurd ⟨hc, Or.inl hq⟩ z⟩
      have e1 : m_so so rk j = so := if_neg hq
      have e2 : m_rk so rk j = rk := by
        funext i
        unfold m_rk
        rw [if_neg (fun w => hq w.2)]
      rw [e1, e2]
      exact ha
  · rw [if_neg hc, if_pos rfl, if_neg (fun z => hc z.1)]
    exact ⟨_, _, rfl, fun z => absurd z.1 hc, fun _ => ⟨rfl, rfl⟩⟩
/-- canBeSort and becomesSort of the reference -/
theorem q_can (hm : m_S sz so ty rk) (hd : d_S sz so ty rk D_symbols D_sorts D_types D_sortOf) (hj : j < sz) :
    f_Ref_canBeSort n D_symbols D_sorts D_types D_sortOf (nI j) = some (if ty j = none ∧ (rk j ≠ none ∨ so < 100) then 1 else 0) := by
  have hs := hm.1
  have hso := hm.2.1
  unfold f_Ref_canBeSort
  rw [q_isC hm hd hj, bind_some]
  by_cases hc : ty j = none
  · rw [if_pos hc, if_neg (by decide), x_gI (by omega) (by decide), nI_clamp (by omega), hd.2.2.2 j (by omega)]
    by_cases hq : rk j = none
    · rw [if_pos ((hm.rk_m1 j).mpr hq)]
      by_cases hf : so < 100
      · rw [if_neg (by rw [hd.2.1, i_lit, i_le (by omega) (by decide)]; omega), if_pos ⟨hc, Or.inr hf⟩]
      · rw [if_pos (by rw [hd.2.1, i_lit, i_le (by omega) (by decide)]; omega), if_neg (fun z => z.2.elim (fun w => w hq) hf)]
    · rw [if_neg (fun z => hq ((hm.rk_m1 j).mp z)), if_pos ⟨hc, Or.inl hq⟩]
  · rw [if_neg hc, if_pos rfl, if_neg (fun z => hc z.1)]
theorem q_can_out (hd : d_S sz so ty rk D_symbols D_sorts D_types D_sortOf) (h : a < 0 ∨ nI sz ≤ a) : f_Ref_canBeSort n D_symbols D_sorts D_types D_sortOf a = some 0 := by
  unfold f_Ref_canBeSort
  rw [q_isC_out hd h, bind_some, if_pos rfl]
theorem p_becomes_out (ha : a_S sz so ty rk S_size S_sorts S_types S_ranks S_typeRanks) (h : a < 0 ∨ nI sz ≤ a) : f_Symbols_becomesSort n S_size S_sorts S_types S_ranks a = some (0, S_sorts, S_ranks) := by
  unfold f_Symbols_becomesSort
  rw [p_isC_out ha h, bind_some, if_pos rfl]
theorem q_becomes (hm : m_S sz so ty rk) (hd : d_S sz so ty rk D_symbols D_sorts D_types D_sortOf) (hj : j < sz) :
    ∃ D_sorts' D_sortOf', f_Ref_becomesSort n D_sorts D_sortOf (nI j) = some (D_sorts', D_sortOf') ∧ d_S sz (m_so so rk j) ty (m_rk so rk j) D_symbols D_sorts' D_types D_sortOf' := by
  have hs := hm.1
  obtain ⟨h1, h2, h3, h4⟩ := hd
  unfold f_Ref_becomesSort
  rw [x_gI (by omega) (by decide), nI_clamp (by omega), h4 j (by omega), x_gI (by omega) (by decide)]
  by_cases hq : rk j = none
  · rw [if_pos ((hm.rk_m1 j).mpr hq)]
    refine ⟨_, _, rfl, h1, ?_, h3, fun i hi => ?_⟩
    · rw [h2, show m_so so rk j = so + 1 from if_pos hq]; exact nI_1 so
    · unfold m_rk
      by_cases z : i = j
      · rw [z, pk_us, if_pos ⟨rfl, hq⟩, h2, oI_some]
      · rw [pk_un z, if_neg (fun w => z w.1), h4 i hi]
  · rw [if_neg (fun z => hq ((hm.rk_m1 j).mp z))]
    refine ⟨_, _, rfl, h1, ?_, h3, fun i hi => ?_⟩
    · rw [h2, show m_so so rk j = so from if_neg hq]
    · unfold m_rk
      rw [if_neg (fun w => hq w.2), h4 i hi]
/-- one more symbol -/
def m_ty (sz : Nat) (ty : Nat → Option Nat) (o : Option Nat) : Nat → Option Nat := fun i => if i = sz then o else ty i
theorem m_S_new (hm : m_S sz so ty rk) (hs : sz < 1000) (o : Option Nat) (ho : ∀ t, o = some t → t < sz ∧ ty t = none ∧ ∃ k, rk t = some k) : m_S (sz + 1) so (m_ty sz ty o) rk := by
  obtain ⟨h1, h2, h3, h4, h5⟩ := hm
  have e : ∀ i, i < sz → m_ty sz ty o i = ty i := fun i hi => if_neg (by omega)
  refine ⟨by omega, h2, fun i hi t ht => ?_, fun i k hk => ?_, h5⟩
  · have key : t < sz ∧ ty t = none ∧ ∃ k, rk t = some k := by
      by_cases z : i = sz
      · rw [z] at ht
        exact ho t (by rw [← ht]; exact (if_pos rfl).symm)
      · rw [e i (by omega)] at ht
        exact h3 i (by omega) t ht
    exact ⟨by omega, by rw [e t key.1]; exact key.2.1, key.2.2⟩
  · obtain ⟨b1, b2, b3⟩ := h4 i k hk
    exact ⟨by omega, b2, by rw [e i b1]; exact b3⟩
theorem a_S_new (hm : m_S sz so ty rk) (ha : a_S sz so ty rk S_size S_sorts S_types S_ranks S_typeRanks) (o : Option Nat) (v w : Int32) (hv : v = oI o) (hw : w = oI (o.bind rk)) :
    a_S (sz + 1) so (m_ty sz ty o) rk (S_size + 1) S_sorts (upd S_types sz v) (upd S_ranks sz (-1)) (upd S_typeRanks sz w) := by
  obtain ⟨h1, h2, h3⟩ := ha
  refine ⟨by rw [h1]; exact nI_1 sz, h2, fun i hi => ?_⟩
  unfold m_ty
  by_cases z : i = sz
  · rw [z, pk_us, pk_us, pk_us, if_pos rfl]
    refine ⟨hv, ?_, hw⟩
    cases hk : rk sz with
    | none => rfl
    | some k => exact absurd (hm.2.2.2.1 sz k hk).1 (Nat.lt_irrefl _)
  · rw [pk_un z, pk_un z, pk_un z, if_neg z]
    exact h3 i (by omega)
theorem d_S_new (hm : m_S sz so ty rk) (hd : d_S sz so ty rk D_symbols D_sorts D_types D_sortOf) (o : Option Nat) (v : Int32) (hv : v = oI o) :
    d_S (sz + 1) so (m_ty sz ty o) rk (D_symbols + 1) D_sorts (upd D_types sz v) D_sortOf := by
  obtain ⟨h1, h2, h3, h4⟩ := hd
  refine ⟨by rw [h1]; exact nI_1 sz, h2, fun i hi => ?_, h4⟩
  unfold m_ty
  by_cases z : i = sz
  · rw [z, pk_us, if_pos rfl, hv]
  · rw [pk_un z, if_neg z]
    exact h3 i (by omega)
end SY
/-- a model that has grown -/
def m_ext (sz : Nat) (ty rk : Nat → Option Nat) (sz' : Nat) (ty' rk' : Nat → Option Nat) : Prop := sz ≤ sz' ∧ (∀ i, i < sz → ty' i = ty i) ∧ ∀ i k, rk i = some k → rk' i = some k
theorem m_ext_rf {sz : Nat} {ty rk : Nat → Option Nat} : m_ext sz ty rk sz ty rk := ⟨Nat.le_refl _, fun _ _ => rfl, fun _ _ h => h⟩
theorem m1_out {sz : Nat} : (-1 : Int32) < 0 ∨ nI sz ≤ (-1 : Int32) := Or.inl (by decide)
section SY2
variable {n sz so : Nat} {ty rk : Nat → Option Nat} {S_size S_sorts : Int32} {S_types S_ranks S_typeRanks : Nat → Int32} {D_symbols D_sorts D_isFound : Int32} {D_types D_sortOf : Nat → Int32}
theorem p_append {v w : Int32} (hs : sz < 1000) (h1 : S_size = nI sz) : f_Symbols_append n S_size S_types S_ranks S_typeRanks v w = some (nI sz, S_size + 1, upd S_types sz v, upd S_ranks sz (-1), upd S_typeRanks sz w) := by
  have hin : ∀ {α : Type} (z : Option α), x_g (nI sz) 1000 z = z := fun z => x_gI (by omega) (by decide)
  unfold f_Symbols_append
  rw [h1]
  simp only [hin, nI_clamp (show sz < 2 ^ 31 by omega)]
  rw [show nI sz + (1 : Int32) - (1 : Int32) = nI sz by rw [nI_1]; exact nI_pred sz]
theorem symbol_step (hm : m_S sz so ty rk) (ha : a_S sz so ty rk S_size S_sorts S_types S_ranks S_typeRanks) (hd : d_S sz so ty rk D_symbols D_sorts D_types D_sortOf) (a : Int32) :
    ∃ r sz' so' ty' rk' S_size' S_sorts' S_types' S_ranks' S_typeRanks' D_symbols' D_sorts' D_isFound' D_types' D_sortOf',
      f_Top_symbol n S_size S_sorts S_types S_ranks S_typeRanks a = some (r, S_size', S_sorts', S_types', S_ranks', S_typeRanks') ∧
      f_Ref_symbol n D_symbols D_sorts D_isFound D_types D_sortOf a = some (r, D_symbols', D_sorts', D_isFound', D_types', D_sortOf') ∧
      m_S sz' so' ty' rk' ∧ a_S sz' so' ty' rk' S_size' S_sorts' S_types' S_ranks' S_typeRanks' ∧ d_S sz' so' ty' rk' D_symbols' D_sorts' D_types' D_sortOf' ∧ m_ext sz ty rk sz' ty' rk' ∧
      ((D_isFound' = D_isFound ∧ sz' = sz ∧ so' = so ∧ ty' = ty ∧ rk' = rk) ∨ D_isFound' = 0) := by
  have hs := hm.1
  have hso := hm.2.1
  have hstay : (D_isFound = D_isFound ∧ sz = sz ∧ so = so ∧ ty = ty ∧ rk = rk) ∨ D_isFound = 0 := Or.inl ⟨rfl, rfl, rfl, rfl, rfl⟩
  unfold f_Top_symbol f_Ref_symbol
  by_cases hfull : sz = 1000
  · have e1 : D_symbols = (1000 : Int32) := by rw [hd.1, hfull]; rfl
    have e2 : (1000 : Int32) ≤ S_size := by rw [ha.1, hfull]; decide
    rw [if_pos e1]
    by_cases h1 : a = -1
    · rw [if_pos h1]
      unfold f_Symbols_newConstant
      rw [if_pos e2, bind_some]
      exact ⟨_, sz, so, ty, rk, _, _, _, _, _, _, _, _, _, _, rfl, rfl, hm, ha, hd, m_ext_rf, hstay⟩
    · rw [if_neg h1]
      unfold f_Symbols_newVariable
      rw [if_pos e2, bind_some]
      exact ⟨_, sz, so, ty, rk, _, _, _, _, _, _, _, _, _, _, rfl, rfl, hm, ha, hd, m_ext_rf, hstay⟩
  · have hlt : sz < 1000 := by omega
    have e1 : ¬ D_symbols = (1000 : Int32) := by rw [hd.1, i_lit, i_eq (by decide) (by omega)]; exact hfull
    have e2 : ¬ (1000 : Int32) ≤ S_size := by rw [ha.1, i_lit, i_le (by omega) (by decide)]; omega
    have hin : ∀ {α : Type} (z : Option α), x_g D_symbols 1000 z = z := fun z => by rw [hd.1]; exact x_gI (by omega) (by decide)
    have hcl : D_symbols.toNatClampNeg = sz := by rw [hd.1]; exact nI_clamp (by omega)
    have hpr : D_symbols + (1 : Int32) - (1 : Int32) = nI sz := by rw [hd.1, nI_1]; exact nI_pred sz
    rw [if_neg e1]
    simp only [hin, hcl, hpr]
    by_cases h1 : a = -1
    · rw [if_pos h1, if_pos h1, if_pos h1]
      unfold f_Symbols_newConstant
      rw [if_neg e2, p_append hlt ha.1, bind_some, bind_some]
      exact ⟨_, sz + 1, so, m_ty sz ty none, rk, _, _, _, _, _, _, _, _, _, _, rfl, rfl, m_S_new hm hlt none (fun t h => by cases h), a_S_new hm ha none _ _ rfl rfl, d_S_new hm hd none _ h1, ⟨by omega, fun i hi => if_neg (by omega), fun _ _ h => h⟩, Or.inr rfl⟩
    · rw [if_neg h1, if_neg h1, if_neg h1]
      unfold f_Symbols_newVariable
      rw [if_neg e2]
      rcases i_any a (show sz < 2 ^ 31 by omega) with h | h | ⟨j, hj, rfl⟩
      · rw [p_becomes_out ha (Or.inl h), q_can_out hd (Or.inl h), bind_some, bind_some, if_pos rfl, if_pos rfl, bind_some]
        exact ⟨_, sz, so, ty, rk, _, _, _, _, _, _, _, _, _, _, rfl, rfl, hm, ha, hd, m_ext_rf, hstay⟩
      · rw [p_becomes_out ha (Or.inr h), q_can_out hd (Or.inr h), bind_some, bind_some, if_pos rfl, if_pos rfl, bind_some]
        exact ⟨_, sz, so, ty, rk, _, _, _, _, _, _, _, _, _, _, rfl, rfl, hm, ha, hd, m_ext_rf, hstay⟩
      · obtain ⟨s1, r1, e3, g1, g2⟩ := p_becomes (n := n) hm ha hj
        rw [e3, q_can hm hd hj, bind_some, bind_some]
        by_cases hc : ty j = none ∧ (rk j ≠ none ∨ so < 100)
        · rw [if_pos hc, if_neg (show ¬ (1 : Int32) = 0 by decide), if_neg (show ¬ (1 : Int32) = 0 by decide)]
          obtain ⟨s2, r2, e4, g3⟩ := q_becomes (n := n) hm hd hj
          obtain ⟨hm2, k, hk⟩ := m_S_sort hm hj hc
          have ha2 := g1 hc
          rw [e4, bind_some]
          dsimp only
          rw [p_rankOf hm2 ha2 hj, bind_some, p_append hlt ha.1, bind_some, bind_some]
          exact ⟨_, sz + 1, _, m_ty sz ty (some j), _, _, _, _, _, _, _, _, _, _, _, rfl, rfl, m_S_new hm2 hlt (some j) (fun t h => by cases h; exact ⟨hj, hc.1, k, hk⟩), a_S_new hm2 ha2 (some j) _ _ rfl rfl, d_S_new hm2 g3 (some j) _ rfl, ⟨by omega, fun i hi => if_neg (by omega), fun _ _ h => m_rk_old h⟩, Or.inr rfl⟩
        · rw [if_neg hc, if_pos rfl, if_pos rfl, bind_some]
          obtain ⟨q1, q2⟩ := g2 hc
          subst q1
          subst q2
          exact ⟨_, sz, so, ty, rk, _, _, _, _, _, _, _, _, _, _, rfl, rfl, hm, ha, hd, m_ext_rf, hstay⟩
end SY2
