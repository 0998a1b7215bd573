/-! The common model of class and reference: symbols (ty: a variable's type; rk: a sort's rank), rules, row. -/
def oI (o : Option Nat) : Int32 := match o with
  | none => -1
  | some k => nI k
theorem oI_none : oI none = -1 := rfl
theorem oI_some (k : Nat) : oI (some k) = nI k := rfl
theorem oI_m1 {o : Option Nat} (h : ∀ k, o = some k → k < 2 ^ 31) : oI o = -1 ↔ o = none := by
  cases o with
  | none => exact ⟨fun _ => rfl, fun _ => rfl⟩
  | some k =>
    constructor
    · intro q
      rw [oI_some, i_m1 (h k rfl)] at q
      exact q.elim
    · intro q; cases q
/-- the symbols are well made -/
def m_S (sz so : Nat) (ty rk : Nat → Option Nat) : Prop :=
  sz ≤ 1000 ∧ so ≤ 100 ∧ (∀ i, i < sz → ∀ t, ty i = some t → t < sz ∧ ty t = none ∧ ∃ k, rk t = some k) ∧ (∀ i k, rk i = some k → i < sz ∧ k < so ∧ ty i = none) ∧ (∀ i j k, rk i = some k → rk j = some k → i = j)
/-- the class's symbols -/
def a_S (sz so : Nat) (ty rk : Nat → Option Nat) (S_size S_sorts : Int32) (S_types S_ranks S_typeRanks : Nat → Int32) : Prop :=
  S_size = nI sz ∧ S_sorts = nI so ∧ ∀ i, i < sz → S_types i = oI (ty i) ∧ S_ranks i = oI (rk i) ∧ S_typeRanks i = oI ((ty i).bind rk)
/-- the reference's symbols -/
def d_S (sz so : Nat) (ty rk : Nat → Option Nat) (D_symbols D_sorts : Int32) (D_types D_sortOf : Nat → Int32) : Prop :=
  D_symbols = nI sz ∧ D_sorts = nI so ∧ (∀ i, i < sz → D_types i = oI (ty i)) ∧ ∀ i, i < 1000 → D_sortOf i = oI (rk i)
theorem m_S.ty_lt {sz so : Nat} {ty rk : Nat → Option Nat} (h : m_S sz so ty rk) {i t : Nat} (hi : i < sz) (ht : ty i = some t) : t < 2 ^ 31 := by
  have h1 := (h.2.2.1 i hi t ht).1
  have h2 := h.1
  omega
theorem m_S.rk_lt {sz so : Nat} {ty rk : Nat → Option Nat} (h : m_S sz so ty rk) {i k : Nat} (hk : rk i = some k) : k < 2 ^ 31 := by
  have h1 := (h.2.2.2.1 i k hk).2.1
  have h2 := h.2.1
  omega
theorem m_S.ty_m1 {sz so : Nat} {ty rk : Nat → Option Nat} (h : m_S sz so ty rk) {i : Nat} (hi : i < sz) : oI (ty i) = -1 ↔ ty i = none := oI_m1 (fun _ q => h.ty_lt hi q)
theorem m_S.rk_m1 {sz so : Nat} {ty rk : Nat → Option Nat} (h : m_S sz so ty rk) (i : Nat) : oI (rk i) = -1 ↔ rk i = none := oI_m1 (fun _ q => h.rk_lt q)
section LEAF
variable {n sz so : Nat} {ty rk : Nat → Option Nat} {S_size S_sorts : Int32} {S_types S_ranks S_typeRanks : Nat → Int32} {D_symbols D_sorts : Int32} {D_types D_sortOf : Nat → Int32} {a : Int32} {j : Nat}
theorem p_has_in (h : j < sz) (hs : sz ≤ 1000) : f_Symbols_has n (nI sz) (nI j) = some 1 := by
  unfold f_Symbols_has
  rw [if_neg (nI_pos (by omega)), if_neg (by rw [nI_leI (by omega) (by omega)]; omega)]
theorem p_has_out (h : a < 0 ∨ nI sz ≤ a) : f_Symbols_has n (nI sz) a = some 0 := by
  unfold f_Symbols_has
  by_cases h0 : a < 0
  · rw [if_pos h0]
  · rw [if_neg h0, if_pos (h.resolve_left h0)]
theorem q_isS_in (h : j < sz) (hs : sz ≤ 1000) : f_Ref_isSymbol n (nI sz) (nI j) = some 1 := by
  unfold f_Ref_isSymbol
  rw [if_neg (nI_pos (by omega)), if_neg (by rw [nI_leI (by omega) (by omega)]; omega)]
theorem q_isS_out (h : a < 0 ∨ nI sz ≤ a) : f_Ref_isSymbol n (nI sz) a = some 0 := by
  unfold f_Ref_isSymbol
  by_cases h0 : a < 0
  · rw [if_pos h0]
  · rw [if_neg h0, if_pos (h.resolve_left h0)]
theorem p_isC (hm : m_S sz so ty rk) (ha : a_S sz so ty rk S_size S_sorts S_types S_ranks S_typeRanks) (hj : j < sz) : f_Symbols_isConstant n S_size S_types (nI j) = some (if ty j = none then 1 else 0) := by
  have hs := hm.1
  unfold f_Symbols_isConstant
  rw [ha.1, p_has_in hj hs, bind_some, if_neg (by decide), x_gI (by omega) (by decide), nI_clamp (by omega), (ha.2.2 j hj).1]
  by_cases q : ty j = none
  · rw [if_pos ((hm.ty_m1 hj).mpr q), if_pos q]
  · rw [if_neg (fun z => q ((hm.ty_m1 hj).mp z)), if_neg q]
theorem p_isC_out (ha : a_S sz so ty rk S_size S_sorts S_types S_ranks S_typeRanks) (h : a < 0 ∨ nI sz ≤ a) : f_Symbols_isConstant n S_size S_types a = some 0 := by
  unfold f_Symbols_isConstant
  rw [ha.1, p_has_out h, bind_some, if_pos rfl]
theorem p_isV (hm : m_S sz so ty rk) (ha : a_S sz so ty rk S_size S_sorts S_types S_ranks S_typeRanks) (hj : j < sz) : f_Symbols_isVariable n S_size S_types (nI j) = some (if ty j = none then 0 else 1) := by
  have hs := hm.1
  unfold f_Symbols_isVariable
  rw [ha.1, p_has_in hj hs, bind_some, if_neg (by decide), x_gI (by omega) (by decide), nI_clamp (by omega), (ha.2.2 j hj).1]
  by_cases q : ty j = none
  · rw [if_pos ((hm.ty_m1 hj).mpr q), if_pos q]
  · rw [if_neg (fun z => q ((hm.ty_m1 hj).mp z)), if_neg q]
theorem p_typeOf (hm : m_S sz so ty rk) (ha : a_S sz so ty rk S_size S_sorts S_types S_ranks S_typeRanks) (hj : j < sz) : f_Symbols_typeOf n S_size S_types (nI j) = some (oI (ty j)) := by
  have hs := hm.1
  unfold f_Symbols_typeOf
  rw [ha.1, p_has_in hj hs, bind_some, if_neg (by decide), x_gI (by omega) (by decide), nI_clamp (by omega), (ha.2.2 j hj).1]
theorem p_rankOf (hm : m_S sz so ty rk) (ha : a_S sz so ty rk S_size S_sorts S_types S_ranks S_typeRanks) (hj : j < sz) : f_Symbols_rankOf n S_size S_ranks (nI j) = some (oI (rk j)) := by
  have hs := hm.1
  unfold f_Symbols_rankOf
  rw [ha.1, p_has_in hj hs, bind_some, if_neg (by decide), x_gI (by omega) (by decide), nI_clamp (by omega), (ha.2.2 j hj).2.1]
theorem p_typeRankOf (hm : m_S sz so ty rk) (ha : a_S sz so ty rk S_size S_sorts S_types S_ranks S_typeRanks) (hj : j < sz) : f_Symbols_typeRankOf n S_size S_typeRanks (nI j) = some (oI ((ty j).bind rk)) := by
  have hs := hm.1
  unfold f_Symbols_typeRankOf
  rw [ha.1, p_has_in hj hs, bind_some, if_neg (by decide), x_gI (by omega) (by decide), nI_clamp (by omega), (ha.2.2 j hj).2.2]
theorem q_isC (hm : m_S sz so ty rk) (hd : d_S sz so ty rk D_symbols D_sorts D_types D_sortOf) (hj : j < sz) : f_Ref_isConstant n D_symbols D_types (nI j) = some (if ty j = none then 1 else 0) := by
  have hs := hm.1
  unfold f_Ref_isConstant
  rw [hd.1, q_isS_in hj hs, bind_some, if_neg (by decide), x_gI (by omega) (by decide), nI_clamp (by omega), hd.2.2.1 j hj]
  by_cases q : ty j = none
  · rw [if_pos ((hm.ty_m1 hj).mpr q), if_pos q]
  · rw [if_neg (fun z => q ((hm.ty_m1 hj).mp z)), if_neg q]
theorem q_isC_out (hd : d_S sz so ty rk D_symbols D_sorts D_types D_sortOf) (h : a < 0 ∨ nI sz ≤ a) : f_Ref_isConstant n D_symbols D_types a = some 0 := by
  unfold f_Ref_isConstant
  rw [hd.1, q_isS_out h, bind_some, if_pos rfl]
end LEAF
/-- a symbol can be a sort, or can become one -/
def m_can (so : Nat) (ty rk : Nat → Option Nat) (j : Nat) : Prop := ty j = none ∧ (rk j ≠ none ∨ so < 100)
/-- the ranks when it has become one -/
def m_rk (so : Nat) (rk : Nat → Option Nat) (j : Nat) : Nat → Option Nat := fun i => if i = j ∧ rk j = none then some so else rk i
def m_so (so : Nat) (rk : Nat → Option Nat) (j : Nat) : Nat := if rk j = none then so + 1 else so
section LEAF2
variable {n sz so : Nat} {ty rk : Nat → Option Nat} {S_size S_sorts : Int32} {S_types S_ranks S_typeRanks : Nat → Int32} {D_symbols D_sorts : Int32} {D_types D_sortOf : Nat → Int32} {a : Int32} {j : Nat}
theorem m_rk_old {i k : Nat} (h : rk i = some k) : m_rk so rk j i = some k := by
  unfold m_rk
  rw [if_neg (fun q => by rw [q.1, q.2] at h; cases h), h]
theorem m_S_sort (hm : m_S sz so ty rk) (hj : j < sz) (hc : m_can so ty rk j) : m_S sz (m_so so rk j) ty (m_rk so rk j) ∧ ∃ k, m_rk so rk j j = some k := by
  obtain ⟨h1, h2, h3, h4, h5⟩ := hm
  obtain ⟨c1, c2⟩ := hc
  by_cases q : rk j = none
  · have hso : so < 100 := c2.resolve_left (fun z => z q)
    have e1 : m_so so rk j = so + 1 := if_pos q
    have e2 : ∀ i, m_rk so rk j i = if i = j then some so else rk i := fun i => by
      unfold m_rk
      by_cases z : i = j
      · rw [if_pos ⟨z, q⟩, if_pos z]
      · rw [if_neg (fun w => z w.1), if_neg z]
    refine ⟨⟨h1, by omega, fun i hi t ht => ?_, fun i k hk => ?_, fun i l k hi hl => ?_⟩, so, by rw [e2, if_pos rfl]⟩
    · obtain ⟨a1, a2, k, a3⟩ := h3 i hi t ht
      exact ⟨a1, a2, k, m_rk_old a3⟩
    · rw [e2] at hk
      by_cases z : i = j
      · rw [if_pos z] at hk
        cases hk
        subst z
        exact ⟨hj, by omega, c1⟩
      · rw [if_neg z] at hk
        obtain ⟨b1, b2, b3⟩ := h4 i k hk
        exact ⟨b1, by omega, b3⟩
    · rw [e2] at hi hl
      by_cases z : i = j <;> by_cases w : l = j
      · rw [z, w]
      · rw [if_pos z] at hi
        rw [if_neg w] at hl
        cases hi
        have := (h4 l so hl).2.1
        omega
      · rw [if_neg z] at hi
        rw [if_pos w] at hl
        cases hl
        have := (h4 i so hi).2.1
        omega
      · rw [if_neg z] at hi
        rw [if_neg w] at hl
        exact h5 i l k hi hl
  · have e1 : m_so so rk j = so := if_neg q
    have e2 : m_rk so rk j = rk := by
      funext i
      unfold m_rk
      rw [if_neg (fun w => q w.2)]
    rw [e1, e2]
    refine ⟨⟨h1, h2, h3, h4, h5⟩, ?_⟩
    cases hk : rk j with
    | none => exact absurd hk q
    | some k => exact ⟨k, rfl⟩
end LEAF2
