/-! Rules: begin(), put(), close(); the row: add(), empty() -/
/-- the rank of the type of a rule's only symbol, if that is a variable -/
def m_unb (ty rk : Nat → Option Nat) (fi al : Nat → Nat) (r : Nat) : Option Nat := if fi (r + 1) = fi r + 1 then (ty (al (fi r))).bind rk else none
/-- the last rule below b that is one variable whose type has the rank k -/
def m_lu (ty rk : Nat → Option Nat) (fi al : Nat → Nat) : Nat → Nat → Option Nat
  | 0, _ => none
  | b + 1, k => if m_unb ty rk fi al b = some k then some b else m_lu ty rk fi al b k
def m_R (sz : Nat) (ty rk : Nat → Option Nat) (cl us : Nat) (op : Bool) (rs fi al : Nat → Nat) : Prop :=
  cl ≤ 1500 ∧ us ≤ 30000 ∧ fi 0 = 0 ∧ (∀ r, r < cl → fi r < fi (r + 1) ∧ fi (r + 1) ≤ fi r + 299) ∧ fi cl ≤ us ∧ us ≤ fi cl + 299 ∧ (op = false → us = fi cl) ∧ (op = true → cl < 1500) ∧ (∀ p, p < us → al p < sz) ∧ (∀ r, r < cl ∨ (r = cl ∧ op = true) → rs r < sz ∧ ty (rs r) = none ∧ ∃ k, rk (rs r) = some k)
def m_bI (op : Bool) : Int32 := if op = true then 1 else 0
def a_R (ty rk : Nat → Option Nat) (cl us : Nat) (op : Bool) (rs fi al : Nat → Nat) (R_closed R_used R_isOpen : Int32) (R_sorts R_all R_firsts R_newestWraps R_olderWraps : Nat → Int32) : Prop :=
  R_closed = nI cl ∧ R_used = nI us ∧ R_isOpen = m_bI op ∧ (∀ r, r < cl ∨ (r = cl ∧ op = true) → R_sorts r = nI (rs r)) ∧ (∀ r, r ≤ cl → R_firsts r = nI (fi r)) ∧ (∀ p, p < us → R_all p = nI (al p)) ∧ (∀ k, k < 100 → R_newestWraps k = oI (m_lu ty rk fi al cl k)) ∧ (∀ r, r < cl → ∀ k, m_unb ty rk fi al r = some k → R_olderWraps r = oI (m_lu ty rk fi al r k))
def d_R (cl us : Nat) (op : Bool) (rs fi al : Nat → Nat) (D_rules D_isOpen D_all : Int32) (D_makes D_starts D_told : Nat → Int32) : Prop :=
  D_rules = nI cl ∧ D_all = nI us ∧ D_isOpen = m_bI op ∧ (∀ r, r < cl ∨ (r = cl ∧ op = true) → D_makes r = nI (rs r)) ∧ (∀ r, r ≤ cl → D_starts r = nI (fi r)) ∧ (∀ p, p < us → D_told p = nI (al p))
theorem m_lu_lt {ty rk : Nat → Option Nat} {fi al : Nat → Nat} : ∀ {b k r : Nat}, m_lu ty rk fi al b k = some r → r < b
  | 0, _, _, h => by cases h
  | b + 1, k, r, h => by
    unfold m_lu at h
    by_cases q : m_unb ty rk fi al b = some k
    · rw [if_pos q] at h; cases h; exact Nat.lt_succ_self b
    · rw [if_neg q] at h; exact Nat.lt_succ_of_lt (m_lu_lt h)
theorem m_fi_mono {fi : Nat → Nat} {cl : Nat} (h : ∀ r, r < cl → fi r < fi (r + 1)) : ∀ {a b : Nat}, a ≤ b → b ≤ cl → fi a ≤ fi b
  | a, 0, h1, _ => by
    have e : a = 0 := by omega
    rw [e]; exact Nat.le_refl _
  | a, b + 1, h1, h2 => by
    rcases Nat.lt_or_ge b a with q | q
    · have e : a = b + 1 := by omega
      rw [e]; exact Nat.le_refl _
    · exact Nat.le_trans (m_fi_mono h q (by omega)) (Nat.le_of_lt (h b (by omega)))
/-- what a grown model keeps -/
theorem m_unb_ext {sz sz' cl us : Nat} {op : Bool} {ty rk ty' rk' : Nat → Option Nat} {rs fi al : Nat → Nat} {so : Nat} (hS : m_S sz so ty rk) (hR : m_R sz ty rk cl us op rs fi al) (hx : m_ext sz ty rk sz' ty' rk') {r : Nat} (hr : r < cl) : m_unb ty' rk' fi al r = m_unb ty rk fi al r := by
  unfold m_unb
  by_cases q : fi (r + 1) = fi r + 1
  · rw [if_pos q, if_pos q]
    have h1 : fi r < us := by
      have a1 := (hR.2.2.2.1 r hr).1
      have a2 := m_fi_mono (fun z hz => (hR.2.2.2.1 z hz).1) (show r + 1 ≤ cl from hr) (Nat.le_refl cl)
      have a3 := hR.2.2.2.2.1
      omega
    have h2 := hR.2.2.2.2.2.2.2.2.1 (fi r) h1
    rw [hx.2.1 _ h2]
    cases ht : ty (al (fi r)) with
    | none => rfl
    | some t =>
      obtain ⟨-, -, k, hk⟩ := hS.2.2.1 _ h2 t ht
      show rk' t = rk t
      rw [hk, hx.2.2 t k hk]
  · rw [if_neg q, if_neg q]
theorem m_lu_congr {ty rk ty' rk' : Nat → Option Nat} {fi al fi' al' : Nat → Nat} : ∀ {b k : Nat}, (∀ r, r < b → m_unb ty' rk' fi' al' r = m_unb ty rk fi al r) → m_lu ty' rk' fi' al' b k = m_lu ty rk fi al b k
  | 0, _, _ => rfl
  | b + 1, k, h => by
    unfold m_lu
    rw [h b (Nat.lt_succ_self b), m_lu_congr (fun r hr => h r (Nat.lt_succ_of_lt hr))]
theorem m_R_ext {sz sz' cl us : Nat} {op : Bool} {ty rk ty' rk' : Nat → Option Nat} {rs fi al : Nat → Nat} (hR : m_R sz ty rk cl us op rs fi al) (hx : m_ext sz ty rk sz' ty' rk') : m_R sz' ty' rk' cl us op rs fi al := by
  obtain ⟨h1, h2, h3, h4, h5, h6, h7, h8, h9, h10⟩ := hR
  refine ⟨h1, h2, h3, h4, h5, h6, h7, h8, fun p hp => Nat.lt_of_lt_of_le (h9 p hp) hx.1, fun r hr => ?_⟩
  obtain ⟨a1, a2, k, a3⟩ := h10 r hr
  exact ⟨Nat.lt_of_lt_of_le a1 hx.1, by rw [hx.2.1 _ a1]; exact a2, k, hx.2.2 _ _ a3⟩
theorem a_R_ext {sz sz' so cl us : Nat} {op : Bool} {ty rk ty' rk' : Nat → Option Nat} {rs fi al : Nat → Nat} {R_closed R_used R_isOpen : Int32} {R_sorts R_all R_firsts R_newestWraps R_olderWraps : Nat → Int32} (hS : m_S sz so ty rk) (hR : m_R sz ty rk cl us op rs fi al) (hx : m_ext sz ty rk sz' ty' rk') (h : a_R ty rk cl us op rs fi al R_closed R_used R_isOpen R_sorts R_all R_firsts R_newestWraps R_olderWraps) : a_R ty' rk' cl us op rs fi al R_closed R_used R_isOpen R_sorts R_all R_firsts R_newestWraps R_olderWraps := by
  obtain ⟨h1, h2, h3, h4, h5, h6, h7, h8⟩ := h
  refine ⟨h1, h2, h3, h4, h5, h6, fun k hk => ?_, fun r hr k hk => ?_⟩
  · rw [h7 k hk, m_lu_congr (fun r hr => m_unb_ext hS hR hx hr)]
  · rw [m_unb_ext hS hR hx hr] at hk
    rw [h8 r hr k hk, m_lu_congr (fun z hz => m_unb_ext hS hR hx (Nat.lt_trans hz hr))]
/-- a function changed at one place -/
def m_up (f : Nat → Nat) (k v : Nat) : Nat → Nat := fun i => if i = k then v else f i
theorem m_up_s {f : Nat → Nat} {k v : Nat} : m_up f k v k = v := if_pos rfl
theorem m_up_n {f : Nat → Nat} {k v i : Nat} (h : i ≠ k) : m_up f k v i = f i := if_neg h
section RU
variable {n sz so : Nat} {ty rk : Nat → Option Nat} {cl us : Nat} {op : Bool} {rs fi al : Nat → Nat} {S_size S_sorts : Int32} {S_types S_ranks S_typeRanks : Nat → Int32} {D_symbols D_sorts D_isFound : Int32} {D_types D_sortOf : Nat → Int32} {R_closed R_used R_isOpen : Int32} {R_sorts R_all R_firsts R_newestWraps R_olderWraps : Nat → Int32} {D_rules D_isOpen D_all : Int32} {D_makes D_starts D_told : Nat → Int32}
theorem m_bI_0 : m_bI op = 0 ↔ op = false := by
  cases op with
  | true => exact ⟨fun h => absurd h (by decide), fun h => by cases h⟩
  | false => exact ⟨fun _ => rfl, fun _ => rfl⟩
theorem begin_step (hm : m_S sz so ty rk) (ha : a_S sz so ty rk S_size S_sorts S_types S_ranks S_typeRanks) (hd : d_S sz so ty rk D_symbols D_sorts D_types D_sortOf)
    (hR : m_R sz ty rk cl us op rs fi al) (hA : a_R ty rk cl us op rs fi al R_closed R_used R_isOpen R_sorts R_all R_firsts R_newestWraps R_olderWraps) (hD : d_R cl us op rs fi al D_rules D_isOpen D_all D_makes D_starts D_told) (a : Int32) :
    ∃ r so' rk' op' rs' S_sorts' S_ranks' R_isOpen' R_sorts' D_sorts' D_isOpen' D_isFound' D_sortOf' D_makes' D_starts',
      f_Top_begin n S_size S_sorts S_types S_ranks R_closed R_isOpen R_sorts a = some (r, S_sorts', S_ranks', R_isOpen', R_sorts') ∧
      f_Ref_begin n D_symbols D_sorts D_rules D_isOpen D_all D_isFound D_types D_sortOf D_makes D_starts a = some (r, D_sorts', D_isOpen', D_isFound', D_sortOf', D_makes', D_starts') ∧
      m_S sz so' ty rk' ∧ a_S sz so' ty rk' S_size S_sorts' S_types S_ranks' S_typeRanks ∧ d_S sz so' ty rk' D_symbols D_sorts' D_types D_sortOf' ∧ m_ext sz ty rk sz ty rk' ∧
      m_R sz ty rk' cl us op' rs' fi al ∧ a_R ty rk' cl us op' rs' fi al R_closed R_used R_isOpen' R_sorts' R_all R_firsts R_newestWraps R_olderWraps ∧ d_R cl us op' rs' fi al D_rules D_isOpen' D_all D_makes' D_starts' D_told ∧ (∀ q, q < cl → rs' q = rs q) ∧
      ((D_isFound' = D_isFound ∧ so' = so ∧ rk' = rk) ∨ D_isFound' = 0) := by
  have hs := hm.1
  have hcl := hR.1
  have stay : ∀ (x : Int32), ∃ r so' rk' op' rs' S_sorts' S_ranks' R_isOpen' R_sorts' D_sorts' D_isOpen' D_isFound' D_sortOf' D_makes' D_starts',
      (some (x, S_sorts, S_ranks, R_isOpen, R_sorts) : Option (Int32 × Int32 × (Nat → Int32) × Int32 × (Nat → Int32))) = some (r, S_sorts', S_ranks', R_isOpen', R_sorts') ∧
      (some (x, D_sorts, D_isOpen, D_isFound, D_sortOf, D_makes, D_starts) : Option (Int32 × Int32 × Int32 × Int32 × (Nat → Int32) × (Nat → Int32) × (Nat → Int32))) = some (r, D_sorts', D_isOpen', D_isFound', D_sortOf', D_makes', D_starts') ∧
      m_S sz so' ty rk' ∧ a_S sz so' ty rk' S_size S_sorts' S_types S_ranks' S_typeRanks ∧ d_S sz so' ty rk' D_symbols D_sorts' D_types D_sortOf' ∧ m_ext sz ty rk sz ty rk' ∧
      m_R sz ty rk' cl us op' rs' fi al ∧ a_R ty rk' cl us op' rs' fi al R_closed R_used R_isOpen' R_sorts' R_all R_firsts R_newestWraps R_olderWraps ∧ d_R cl us op' rs' fi al D_rules D_isOpen' D_all D_makes' D_starts' D_told ∧ (∀ q, q < cl → rs' q = rs q) ∧
      ((D_isFound' = D_isFound ∧ so' = so ∧ rk' = rk) ∨ D_isFound' = 0) :=
    fun x => ⟨x, so, rk, op, rs, _, _, _, _, _, _, _, _, _, _, rfl, rfl, hm, ha, hd, m_ext_rf, hR, hA, hD, fun _ _ => rfl, Or.inl ⟨rfl, rfl, rfl⟩⟩
  unfold f_Top_begin f_Rules_open f_Ref_begin
  by_cases hop : op = false
  · have e1 : R_isOpen = 0 := by rw [hA.2.2.1]; exact m_bI_0.mpr hop
    have e2 : D_isOpen = 0 := by rw [hD.2.2.1]; exact m_bI_0.mpr hop
    rw [if_pos e1, if_pos e2]
    by_cases hf : cl = 1500
    · have e3 : (1500 : Int32) ≤ R_closed := by rw [hA.1, hf]; decide
      have e4 : D_rules = (1500 : Int32) := by rw [hD.1, hf]; rfl
      rw [if_pos e3, if_pos e4, bind_some]
      exact stay _
    · have e3 : ¬ (1500 : Int32) ≤ R_closed := by rw [hA.1, i_lit, i_le (by omega) (by decide)]; omega
      have e4 : ¬ D_rules = (1500 : Int32) := by rw [hD.1, i_lit, i_eq (by decide) (by omega)]; exact hf
      rw [if_neg e3, if_neg e4]
      rcases i_any a (show sz < 2 ^ 31 by omega) with h | h | ⟨j, hj, rfl⟩
      · rw [p_becomes_out ha (Or.inl h), q_can_out hd (Or.inl h), bind_some, bind_some, if_pos rfl, if_pos rfl, bind_some]
        exact stay _
      · rw [p_becomes_out ha (Or.inr h), q_can_out hd (Or.inr h), bind_some, bind_some, if_pos rfl, if_pos rfl, bind_some]
        exact stay _
      · obtain ⟨s1, r1, e5, g1, g2⟩ := p_becomes (n := n) hm ha hj
        rw [e5, q_can hm hd hj, bind_some, bind_some]
        by_cases hc : ty j = none ∧ (rk j ≠ none ∨ so < 100)
        · rw [if_pos hc, if_neg (show ¬ (1 : Int32) = 0 by decide), if_neg (show ¬ (1 : Int32) = 0 by decide)]
          obtain ⟨s2, r2, e6, g3⟩ := q_becomes (n := n) hm hd hj
          obtain ⟨hm2, k, hk⟩ := m_S_sort hm hj hc
          have hx : m_ext sz ty rk sz ty (m_rk so rk j) := ⟨Nat.le_refl _, fun _ _ => rfl, fun _ _ h => m_rk_old h⟩
          rw [e6, bind_some]
          have c1 : x_g R_closed 1500 (some (R_closed, s1, r1, (1 : Int32), upd R_sorts R_closed.toNatClampNeg (nI j))) = some (nI cl, s1, r1, (1 : Int32), upd R_sorts cl (nI j)) := by
            rw [hA.1, x_gI (by omega) (by decide), nI_clamp (by omega)]
          have c2 : x_g D_rules 1500 (x_g D_rules 1501 (some (D_rules, s2, (1 : Int32), (0 : Int32), r2, upd D_makes D_rules.toNatClampNeg (nI j), upd D_starts D_rules.toNatClampNeg D_all))) = some (nI cl, s2, (1 : Int32), (0 : Int32), r2, upd D_makes cl (nI j), upd D_starts cl D_all) := by
            rw [hD.1, x_gI (by omega) (by decide), x_gI (by omega) (by decide), nI_clamp (by omega)]
          dsimp only
          rw [c1, c2, bind_some]
          obtain ⟨b1, b2, b3, b4, b5, b6, b7, b8, b9, b10⟩ := m_R_ext hR hx
          obtain ⟨u1, u2, u3, u4, u5, u6, u7, u8⟩ := a_R_ext hm hR hx hA
          obtain ⟨v1, v2, v3, v4, v5, v6⟩ := hD
          refine ⟨_, _, _, true, m_up rs cl j, _, _, _, _, _, _, _, _, _, _, rfl, rfl, hm2, g1 hc, g3, hx, ⟨b1, b2, b3, b4, b5, b6, (fun h => by cases h), (fun _ => by omega), b9, fun r hr => ?_⟩, ⟨u1, u2, rfl, fun r hr => ?_, u5, u6, u7, u8⟩, ⟨v1, v2, rfl, fun r hr => ?_, fun r hr => ?_, v6⟩, fun q hq => m_up_n (by omega), Or.inr rfl⟩
          · by_cases z : r = cl
            · rw [z, m_up_s]; exact ⟨hj, hc.1, k, hk⟩
            · rw [m_up_n z]; exact b10 r (Or.inl (by omega))
          · show upd R_sorts cl (nI j) r = _
            by_cases z : r = cl
            · rw [z, m_up_s, pk_us]
            · rw [m_up_n z, pk_un z]; exact u4 r (Or.inl (by omega))
          · by_cases z : r = cl
            · rw [z, m_up_s, pk_us]
            · rw [m_up_n z, pk_un z]; exact v4 r (Or.inl (by omega))
          · by_cases z : r = cl
            · rw [z, pk_us, v2, hR.2.2.2.2.2.2.1 hop]
            · rw [pk_un z]; exact v5 r hr
        · rw [if_neg hc, if_pos rfl, if_pos rfl, bind_some]
          obtain ⟨q1, q2⟩ := g2 hc
          subst q1
          subst q2
          exact stay _
  · have e1 : ¬ R_isOpen = 0 := by rw [hA.2.2.1]; exact fun h => hop (m_bI_0.mp h)
    have e2 : ¬ D_isOpen = 0 := by rw [hD.2.2.1]; exact fun h => hop (m_bI_0.mp h)
    rw [if_neg e1, if_neg e2, bind_some]
    exact stay _
end RU
