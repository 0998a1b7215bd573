section PU
variable {n sz so : Nat} {ty rk : Nat → Option Nat} {cl us : Nat} {op : Bool} {rs fi al : Nat → Nat} {S_size S_sorts : Int32} {S_types S_ranks S_typeRanks : Nat → Int32} {D_symbols D_sorts D_isFound : Int32} {D_types D_sortOf : Nat → Int32} {R_closed R_used R_isOpen : Int32} {R_sorts R_all R_firsts R_newestWraps R_olderWraps : Nat → Int32} {D_rules D_isOpen D_all : Int32} {D_makes D_starts D_told : Nat → Int32} {j : Nat}
theorem p_openLen {u : Nat} (hcl : cl ≤ 1500) (hf : R_firsts cl = nI (fi cl)) (hu : fi cl ≤ u) : f_Rules_openLength n (nI cl) (nI u) R_firsts = some (nI (u - fi cl)) := by
  unfold f_Rules_openLength
  rw [x_gI (by omega) (by decide), nI_clamp (by omega), hf, pk_sub hu]
theorem p_openHas (hal : ∀ p, p < us → R_all p = nI (al p)) (hb : ∀ p, p < us → al p < 1000) (hus : us ≤ 30000) (hj : j < 1000) : ∀ (k v : Nat), v ≤ us → us - v < k →
    ((∃ p, v ≤ p ∧ p < us ∧ al p = j) → f_Rules_openHas_L10 n (nI j) (nI us) R_all k (nI v) = some 1) ∧ ((¬ ∃ p, v ≤ p ∧ p < us ∧ al p = j) → f_Rules_openHas_L10 n (nI j) (nI us) R_all k (nI v) = some 0) := by
  intro k
  induction k with
  | zero => intro v _ h; exact absurd h (Nat.not_lt_zero _)
  | succ k ih =>
    intro v hv hk
    rw [f_Rules_openHas_L10]
    by_cases q : us ≤ v
    · rw [if_pos (by rw [i_le (by omega) (by omega)]; exact q)]
      exact ⟨fun ⟨p, h1, h2, _⟩ => by omega, fun _ => rfl⟩
    · rw [if_neg (by rw [i_le (by omega) (by omega)]; exact q), x_gI (by omega) (by decide), nI_clamp (by omega), hal v (by omega)]
      have hbv := hb v (by omega)
      by_cases z : al v = j
      · rw [if_pos (by rw [z])]
        exact ⟨fun _ => rfl, fun h => absurd ⟨v, Nat.le_refl v, by omega, z⟩ h⟩
      · rw [if_neg (by rw [i_eq (by omega) (by omega)]; exact z), nI_1]
        obtain ⟨i1, i2⟩ := ih (v + 1) (by omega) (by omega)
        refine ⟨fun ⟨p, h1, h2, h3⟩ => i1 ⟨p, ?_, h2, h3⟩, fun h => i2 (fun ⟨p, h1, h2, h3⟩ => h ⟨p, by omega, h2, h3⟩)⟩
        rcases Nat.lt_or_ge v p with w | w
        · exact w
        · have e : p = v := by omega
          rw [e] at h3
          exact absurd h3 z
theorem q_putL (hal : ∀ p, p < us → D_told p = nI (al p)) (hb : ∀ p, p < us → al p < 1000) (hus : us < 30000) (hcl : cl ≤ 1500) (hst : D_starts cl = nI (fi cl)) (hfi : fi cl ≤ us) (hj : j < 1000) (hty : D_types j = -1 ↔ ty j = none) : ∀ (k v : Nat), v ≤ us → us - v < k →
    ((ty j ≠ none ∧ ∃ p, v ≤ p ∧ p < us ∧ al p = j) → f_Ref_put_L57 n (nI j) (nI cl) (nI us) D_types D_starts D_told k (nI v) = some (-1, nI us, D_told)) ∧ (¬ (ty j ≠ none ∧ ∃ p, v ≤ p ∧ p < us ∧ al p = j) → f_Ref_put_L57 n (nI j) (nI cl) (nI us) D_types D_starts D_told k (nI v) = some (nI (us + 1 - fi cl), nI (us + 1), upd D_told us (nI j))) := by
  intro k
  induction k with
  | zero => intro v _ h; exact absurd h (Nat.not_lt_zero _)
  | succ k ih =>
    intro v hv hk
    rw [f_Ref_put_L57]
    by_cases q : us ≤ v
    · rw [if_pos (by rw [i_le (by omega) (by omega)]; exact q), x_gI (by omega) (by decide), x_gI (by omega) (by decide), nI_clamp (by omega), nI_clamp (by omega), hst, nI_1, pk_sub (by omega)]
      exact ⟨fun ⟨_, p, h1, h2, _⟩ => by omega, fun _ => rfl⟩
    · rw [if_neg (by rw [i_le (by omega) (by omega)]; exact q), x_gI (by omega) (by decide), nI_clamp (by omega), hal v (by omega)]
      have hbv := hb v (by omega)
      obtain ⟨i1, i2⟩ := ih (v + 1) (by omega) (by omega)
      by_cases z : al v = j
      · rw [if_pos (by rw [z]), x_gI (by omega) (by decide), nI_clamp (by omega)]
        by_cases w : ty j = none
        · rw [if_pos (hty.mpr w), nI_1]
          exact ⟨fun h => absurd w h.1, fun _ => i2 (fun h => h.1 w)⟩
        · rw [if_neg (fun h => w (hty.mp h))]
          exact ⟨fun _ => rfl, fun h => absurd ⟨w, v, Nat.le_refl v, by omega, z⟩ h⟩
      · rw [if_neg (by rw [i_eq (by omega) (by omega)]; exact z), nI_1]
        refine ⟨fun ⟨h0, p, h1, h2, h3⟩ => i1 ⟨h0, p, ?_, h2, h3⟩, fun h => i2 (fun ⟨h0, p, h1, h2, h3⟩ => h ⟨h0, p, by omega, h2, h3⟩)⟩
        rcases Nat.lt_or_ge v p with u | u
        · exact u
        · have e : p = v := by omega
          rw [e] at h3
          exact absurd h3 z
theorem put_step (hn : 40000 ≤ n) (hm : m_S sz so ty rk) (ha : a_S sz so ty rk S_size S_sorts S_types S_ranks S_typeRanks) (hd : d_S sz so ty rk D_symbols D_sorts D_types D_sortOf)
    (hR : m_R sz ty rk cl us op rs fi al) (hA : a_R ty rk cl us op rs fi al R_closed R_used R_isOpen R_sorts R_all R_firsts R_newestWraps R_olderWraps) (hD : d_R cl us op rs fi al D_rules D_isOpen D_all D_makes D_starts D_told) (a : Int32) :
    ∃ r us' al' R_used' R_all' D_all' D_told',
      f_Top_put n S_size S_types R_closed R_used R_isOpen R_all R_firsts a = some (r, R_used', R_all') ∧
      f_Ref_put n D_symbols D_rules D_isOpen D_all D_types D_starts D_told a = some (r, D_all', D_told') ∧
      m_R sz ty rk cl us' op rs fi al' ∧ a_R ty rk cl us' op rs fi al' R_closed R_used' R_isOpen R_sorts R_all' R_firsts R_newestWraps R_olderWraps ∧ d_R cl us' op rs fi al' D_rules D_isOpen D_all' D_makes D_starts D_told' ∧ (∀ p, p < us → al' p = al p) := by
  have hs := hm.1
  obtain ⟨b1, b2, b3, b4, b5, b6, b7, b8, b9, b10⟩ := id hR
  obtain ⟨u1, u2, u3, u4, u5, u6, u7, u8⟩ := id hA
  obtain ⟨v1, v2, v3, v4, v5, v6⟩ := id hD
  have stay : ∃ r us' al' R_used' R_all' D_all' D_told',
      (some ((-1 : Int32), R_used, R_all) : Option (Int32 × Int32 × (Nat → Int32))) = some (r, R_used', R_all') ∧
      (some ((-1 : Int32), D_all, D_told) : Option (Int32 × Int32 × (Nat → Int32))) = some (r, D_all', D_told') ∧
      m_R sz ty rk cl us' op rs fi al' ∧ a_R ty rk cl us' op rs fi al' R_closed R_used' R_isOpen R_sorts R_all' R_firsts R_newestWraps R_olderWraps ∧ d_R cl us' op rs fi al' D_rules D_isOpen D_all' D_makes D_starts D_told' ∧ (∀ p, p < us → al' p = al p) :=
    ⟨_, us, al, _, _, _, _, rfl, rfl, hR, hA, hD, fun _ _ => rfl⟩
  unfold f_Top_put f_Rules_lengthen f_Ref_put
  by_cases hop : op = false
  · rw [if_pos (show R_isOpen = 0 from u3.trans (m_bI_0.mpr hop)), if_pos (show D_isOpen = 0 from v3.trans (m_bI_0.mpr hop)), bind_some]
    exact stay
  · rw [if_neg (show ¬ R_isOpen = 0 from fun h => hop (m_bI_0.mp (u3.symm.trans h))), if_neg (show ¬ D_isOpen = 0 from fun h => hop (m_bI_0.mp (v3.symm.trans h)))]
    have c1 : f_Rules_openLength n R_closed R_used R_firsts = some (nI (us - fi cl)) := by rw [u1, u2]; exact p_openLen b1 (u5 cl (Nat.le_refl _)) b5
    have c2 : (30000 : Int32) ≤ R_used ↔ us = 30000 := by rw [u2, i_lit, i_le (by omega) (by decide)]; omega
    have c3 : D_all = (30000 : Int32) ↔ us = 30000 := by rw [v2, i_lit, i_eq (by decide) (by omega)]
    have c4 : nI (us - fi cl) < (299 : Int32) ↔ us - fi cl < 299 := by rw [i_lit, i_lt (by decide) (by omega)]
    have c5 : D_all - D_starts D_rules.toNatClampNeg = (299 : Int32) ↔ ¬ us - fi cl < 299 := by
      rw [v1, nI_clamp (by omega), v5 cl (Nat.le_refl _), v2, pk_sub b5, i_lit, i_eq (by decide) (by omega)]
      omega
    have c6 : ∀ {α : Type} (z : Option α), x_g D_rules 1501 z = z := fun z => by rw [v1]; exact x_gI (by omega) (by decide)
    rw [c1]
    simp only [c6, bind_some]
    rcases i_any a (show sz < 2 ^ 31 by omega) with h | h | ⟨j, hj, rfl⟩
    · have e1 : f_Symbols_has n S_size a = some 0 := by rw [ha.1]; exact p_has_out (Or.inl h)
      have e2 : f_Ref_isSymbol n D_symbols a = some 0 := by rw [hd.1]; exact q_isS_out (Or.inl h)
      rw [e1, e2]
      simp only [bind_some, if_true]
      split
      · exact stay
      · split <;> exact stay
    · have e1 : f_Symbols_has n S_size a = some 0 := by rw [ha.1]; exact p_has_out (Or.inr h)
      have e2 : f_Ref_isSymbol n D_symbols a = some 0 := by rw [hd.1]; exact q_isS_out (Or.inr h)
      rw [e1, e2]
      simp only [bind_some, if_true]
      split
      · exact stay
      · split <;> exact stay
    · have e1 : f_Symbols_has n S_size (nI j) = some 1 := by rw [ha.1]; exact p_has_in hj hs
      have e2 : f_Ref_isSymbol n D_symbols (nI j) = some 1 := by rw [hd.1]; exact q_isS_in hj hs
      rw [e1, e2, p_isV hm ha hj, bind_some, bind_some, bind_some, if_neg (show ¬ (1 : Int32) = 0 by decide), if_neg (show ¬ (1 : Int32) = 0 by decide)]
      by_cases hfull : us = 30000
      · rw [if_pos (c2.mpr hfull), if_pos (c3.mpr hfull), bind_some]
        exact stay
      · rw [if_neg (fun z => hfull (c2.mp z)), if_neg (fun z => hfull (c3.mp z))]
        by_cases hlen : us - fi cl < 299
        · rw [if_pos (c4.mpr hlen), if_neg (fun z => (c5.mp z) hlen)]
          have hus : us < 30000 := by omega
          have hst : D_starts D_rules.toNatClampNeg = nI (fi cl) := by rw [v1, nI_clamp (by omega)]; exact v5 cl (Nat.le_refl _)
          have hbb : ∀ p, p < us → al p < 1000 := fun p hp => by have := b9 p hp; omega
          have done : ∃ r us' al' R_used' R_all' D_all' D_told',
              (some (nI (us + 1 - fi cl), nI (us + 1), upd R_all us (nI j)) : Option (Int32 × Int32 × (Nat → Int32))) = some (r, R_used', R_all') ∧
              (some (nI (us + 1 - fi cl), nI (us + 1), upd D_told us (nI j)) : Option (Int32 × Int32 × (Nat → Int32))) = some (r, D_all', D_told') ∧
              m_R sz ty rk cl us' op rs fi al' ∧ a_R ty rk cl us' op rs fi al' R_closed R_used' R_isOpen R_sorts R_all' R_firsts R_newestWraps R_olderWraps ∧ d_R cl us' op rs fi al' D_rules D_isOpen D_all' D_makes D_starts D_told' ∧ (∀ p, p < us → al' p = al p) := by
            have hfl : ∀ r, r < cl → fi r < us := fun r hr => by
              have q1 := (b4 r hr).1
              have q2 := m_fi_mono (fun z hz => (b4 z hz).1) (show r + 1 ≤ cl from hr) (Nat.le_refl cl)
              omega
            have hunb : ∀ r, r < cl → m_unb ty rk fi (m_up al us j) r = m_unb ty rk fi al r := fun r hr => by
              unfold m_unb
              rw [m_up_n (Nat.ne_of_lt (hfl r hr))]
            refine ⟨_, us + 1, m_up al us j, _, _, _, _, rfl, rfl, ⟨b1, by omega, b3, b4, by omega, by omega, fun h => absurd h hop, b8, fun p hp => ?_, b10⟩, ⟨u1, rfl, u3, u4, u5, fun p hp => ?_, fun k hk => ?_, fun r hr k hk => ?_⟩, ⟨v1, rfl, v3, v4, v5, fun p hp => ?_⟩, fun p hp => m_up_n (by omega)⟩
            · by_cases z : p = us
              · rw [z, m_up_s]; exact hj
              · rw [m_up_n z]; exact b9 p (by omega)
            · by_cases z : p = us
              · rw [z, m_up_s, pk_us]
              · rw [m_up_n z, pk_un z]; exact u6 p (by omega)
            · rw [u7 k hk, m_lu_congr hunb]
            · rw [hunb r hr] at hk
              rw [u8 r hr k hk, m_lu_congr (fun z hz => hunb z (Nat.lt_trans hz hr))]
            · by_cases z : p = us
              · rw [z, m_up_s, pk_us]
              · rw [m_up_n z, pk_un z]; exact v6 p (by omega)
          obtain ⟨L1, L2⟩ := q_putL (n := n) (ty := ty) (D_types := D_types) (D_starts := D_starts) (D_told := D_told) v6 hbb hus b1 (v5 cl (Nat.le_refl _)) b5 (show j < 1000 by omega) (by rw [hd.2.2.1 j hj]; exact hm.ty_m1 hj) n (fi cl) b5 (by omega)
          obtain ⟨K1, K2⟩ := p_openHas (n := n) u6 hbb b2 (show j < 1000 by omega) n (fi cl) b5 (by omega)
          have hK : f_Rules_openHas n R_closed R_used R_all R_firsts (nI j) = f_Rules_openHas_L10 n (nI j) (nI us) R_all n (nI (fi cl)) := by
            unfold f_Rules_openHas
            rw [u1, u2, x_gI (by omega) (by decide), nI_clamp (by omega), u5 cl (Nat.le_refl _)]
          have c7 : x_g R_used 30000 ((f_Rules_openLength n R_closed (R_used + (1 : Int32)) R_firsts).bind fun x10 => (some (x10, (R_used + (1 : Int32)), (upd R_all R_used.toNatClampNeg (nI j))))) = some (nI (us + 1 - fi cl), nI (us + 1), upd R_all us (nI j)) := by
            rw [u2, x_gI (by omega) (by decide), nI_1, u1, p_openLen b1 (u5 cl (Nat.le_refl _)) (by omega), bind_some, nI_clamp (by omega)]
          have eL : f_Ref_put_L57 n (nI j) D_rules D_all D_types D_starts D_told n (D_starts D_rules.toNatClampNeg) = f_Ref_put_L57 n (nI j) (nI cl) (nI us) D_types D_starts D_told n (nI (fi cl)) := by rw [hst, v1, v2]
          rw [c7, eL]
          by_cases hv : ty j = none
          · rw [if_pos hv, if_pos rfl, L2 (fun h => h.1 hv), bind_some]
            exact done
          · rw [if_neg hv, if_neg (show ¬ (1 : Int32) = 0 by decide), hK]
            by_cases hex : ∃ p, fi cl ≤ p ∧ p < us ∧ al p = j
            · rw [K1 hex, bind_some, if_neg (show ¬ (1 : Int32) = 0 by decide), L1 ⟨hv, hex⟩, bind_some, ← v2]
              exact stay
            · rw [K2 hex, bind_some, if_pos rfl, L2 (fun h => hex h.2), bind_some]
              exact done
        · rw [if_neg (fun z => hlen (c4.mp z)), if_pos (c5.mpr hlen), bind_some]
          exact stay
end PU
