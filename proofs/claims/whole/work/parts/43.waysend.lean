/-! waysToEnd of the class; trees that are found and queued -/
section WT
variable {n sz so : Nat} {ty rk : Nat → Option Nat} {cl us : Nat} {op : Bool} {rs fi al : Nat → Nat} {S_size S_sorts : Int32} {S_types S_ranks S_typeRanks : Nat → Int32} {R_closed R_used R_isOpen : Int32} {R_sorts R_all R_firsts R_newestWraps R_olderWraps : Nat → Int32} {ln : Nat} {rw_ : Nat → Nat} {W_length : Int32} {W_row : Nat → Int32} {C_starts C_severalStarts C_ends C_severalEnds : Nat → Int64} {c : Nat → Nat → Nat → Nat}
theorem m_fi_us (hR : m_R sz ty rk cl us op rs fi al) {r : Nat} (hr : r < cl) : fi r < us ∧ fi (r + 1) ≤ us ∧ fi r < fi (r + 1) := by
  have q1 := (hR.2.2.2.1 r hr).1
  have q2 := m_fi_mono (fun z hz => (hR.2.2.2.1 z hz).1) (show r + 1 ≤ cl from hr) (Nat.le_refl cl)
  have q3 := hR.2.2.2.2.1
  omega
theorem p_isClosed (hcl : cl ≤ 1500) {r : Nat} (hr : r < cl) : f_Rules_isClosed n (nI cl) (nI r) = some 1 := by
  unfold f_Rules_isClosed
  rw [if_neg (nI_pos (by omega)), if_neg (by rw [i_le (by omega) (by omega)]; omega)]
theorem p_firstOf (hR : m_R sz ty rk cl us op rs fi al) (hA : a_R ty rk cl us op rs fi al R_closed R_used R_isOpen R_sorts R_all R_firsts R_newestWraps R_olderWraps) {r : Nat} (hr : r ≤ cl) : f_Rules_firstOf n R_closed R_used R_firsts (nI r) = some (nI (fi r)) := by
  have hcl := hR.1
  unfold f_Rules_firstOf
  rw [if_neg (nI_pos (by omega)), hA.1, if_neg (by rw [i_lt (by omega) (by omega)]; omega), x_gI (by omega) (by decide), nI_clamp (by omega), hA.2.2.2.2.1 r hr]
theorem p_lengthOf (hR : m_R sz ty rk cl us op rs fi al) (hA : a_R ty rk cl us op rs fi al R_closed R_used R_isOpen R_sorts R_all R_firsts R_newestWraps R_olderWraps) {r : Nat} (hr : r < cl) : f_Rules_lengthOf n R_closed R_firsts (nI r) = some (nI (grl fi r)) := by
  have hcl := hR.1
  have h1 := m_fi_us hR hr
  unfold f_Rules_lengthOf
  rw [hA.1, p_isClosed hcl hr, bind_some, if_neg (show ¬ (1 : Int32) = 0 by decide), nI_1, x_gI (by omega) (by decide), x_gI (by omega) (by decide), nI_clamp (by omega), nI_clamp (by omega), hA.2.2.2.2.1 r (by omega), hA.2.2.2.2.1 (r + 1) hr, pk_sub (by omega)]
  rfl
theorem p_sortOf (hR : m_R sz ty rk cl us op rs fi al) (hA : a_R ty rk cl us op rs fi al R_closed R_used R_isOpen R_sorts R_all R_firsts R_newestWraps R_olderWraps) {r : Nat} (hr : r < cl) : f_Rules_sortOf n R_closed R_sorts (nI r) = some (nI (rs r)) := by
  have hcl := hR.1
  unfold f_Rules_sortOf
  rw [hA.1, p_isClosed hcl hr, bind_some, if_neg (show ¬ (1 : Int32) = 0 by decide), x_gI (by omega) (by decide), nI_clamp (by omega), hA.2.2.2.1 r (Or.inl hr)]
/-- where a rule's first symbol may end -/
theorem c_first {r i e : Nat} (hi : i < 59) (hc : ∀ A k l, k < l → c A k l ≤ 2) (hm : m_S sz so ty rk)
    (hen : ∀ A, A < so → (∀ k, bb (C_severalEnds A) k = true → bb (C_ends A) k = true) ∧ (∀ k, bb (C_ends A) k = true → k < 60) ∧ ∀ k, k < e → bv (C_ends A) (C_severalEnds A) k = if i < k then c A i k else 0) :
    (∀ k, bb (c_ev (gvt ty rk) C_severalEnds (gra fi al r 0)) k = true → bb (c_en (gvt ty rk) rw_ C_ends (gra fi al r 0) i) k = true) ∧ (∀ k, bb (c_en (gvt ty rk) rw_ C_ends (gra fi al r 0) i) k = true → k < 60) ∧
      ∀ k, k < e → bv (c_en (gvt ty rk) rw_ C_ends (gra fi al r 0) i) (c_ev (gvt ty rk) C_severalEnds (gra fi al r 0)) k = s2 (g_wy rw_ (gvt ty rk) (gra fi al) c r 1 i k) := by
  have key : ∀ k, g_wy rw_ (gvt ty rk) (gra fi al) c r 1 i k = if i < k then g_sp rw_ (gvt ty rk) c (gra fi al r 0) i k else 0 := by
    intro k
    by_cases q : i < k
    · rw [if_pos q, g_wy_1 q]
    · rw [if_neg q, g_wy_0 (by omega)]
  unfold c_ev c_en
  cases hg : gvt ty rk (gra fi al r 0) with
  | none =>
    dsimp only
    refine ⟨fun k hk => (by rw [bb_0] at hk; cases hk), fun k hk => ?_, fun k hk => ?_⟩
    · by_cases q : rw_ i = gra fi al r 0
      · rw [if_pos q, bb_bI (by omega)] at hk
        have : k = i + 1 := by simpa using hk
        omega
      · rw [if_neg q, bb_0] at hk; cases hk
    · rw [key]
      unfold g_sp bv
      rw [hg, bb_0, if_neg (by decide)]
      dsimp only
      by_cases q : rw_ i = gra fi al r 0
      · rw [if_pos q, bb_bI (by omega)]
        by_cases z : k = i + 1
        · subst z
          rw [if_pos (by simp), if_pos (by omega), if_pos ⟨rfl, q⟩]; rfl
        · rw [if_neg (by simp [z])]
          by_cases w : i < k
          · rw [if_pos w, if_neg (fun h => z h.1)]; rfl
          · rw [if_neg w]; rfl
      · rw [if_neg q, bb_0, if_neg (by decide)]
        by_cases w : i < k
        · rw [if_pos w, if_neg (fun h => q h.2)]; rfl
        · rw [if_neg w]; rfl
  | some A =>
    dsimp only
    obtain ⟨s1, s2', s3⟩ := hen A (gvt_lt hm hg)
    refine ⟨s1, s2', fun k hk => ?_⟩
    rw [s3 k hk, key]
    unfold g_sp
    rw [hg]
    dsimp only
    by_cases w : i < k
    · rw [if_pos w, if_pos w, s2_id (hc A i k w)]
    · rw [if_neg w, if_neg w]; rfl
theorem p_waysToEnd (hn : 40000 ≤ n) (hm : m_S sz so ty rk) (ha : a_S sz so ty rk S_size S_sorts S_types S_ranks S_typeRanks) (hR : m_R sz ty rk cl us op rs fi al) (hA : a_R ty rk cl us op rs fi al R_closed R_used R_isOpen R_sorts R_all R_firsts R_newestWraps R_olderWraps) (hW : m_W sz ln rw_) (hw : a_W ln rw_ W_length W_row)
    {r i e : Nat} (hr : r < cl) (hr2 : 2 ≤ grl fi r) (hi : i < e) (he : e ≤ ln) (hc : ∀ A k l, k < l → c A k l ≤ 2)
    (hst : ∀ A, A < so → (∀ k, bb (C_severalStarts (A * 60 + e)) k = true → bb (C_starts (A * 60 + e)) k = true) ∧ ∀ k, bv (C_starts (A * 60 + e)) (C_severalStarts (A * 60 + e)) k = if i < k ∧ k < e then c A k e else 0)
    (hen : ∀ A, A < so → (∀ k, bb (C_severalEnds A) k = true → bb (C_ends A) k = true) ∧ (∀ k, bb (C_ends A) k = true → k < 60) ∧ ∀ k, k < e → bv (C_ends A) (C_severalEnds A) k = if i < k then c A i k else 0)
    (reach sevR : Nat → Int64) (hro : ∀ q, 1 ≤ q → q < grl fi r → c_rok rw_ (gvt ty rk) (gra fi al) c r i (q + 1) e (reach (fi r + q)) (sevR (fi r + q))) :
    ∃ reach' sevR', f_Chart_waysToEnd n S_size S_typeRanks R_closed R_used R_all R_firsts W_length W_row C_starts C_severalStarts C_ends C_severalEnds reach sevR (nI r) (nI i) (nI e) = some (nI (s2 (g_wy rw_ (gvt ty rk) (gra fi al) c r (grl fi r) i e)), reach', sevR') ∧
      (∀ q, 1 ≤ q → q < grl fi r → c_rok rw_ (gvt ty rk) (gra fi al) c r i (q + 1) (e + 1) (reach' (fi r + q)) (sevR' (fi r + q))) ∧ (∀ z, (z < fi r ∨ fi (r + 1) ≤ z) → reach' z = reach z ∧ sevR' z = sevR z) := by
  have hus := hR.2.1
  have h59 := hW.1
  have h1 := m_fi_us hR hr
  have hal := hR.2.2.2.2.2.2.2.2.1 (fi r) h1.1
  have hlen := (hR.2.2.2.1 r hr).2
  obtain ⟨f1, f2, f3⟩ := c_first (fi := fi) (al := al) (r := r) (rw_ := rw_) (show i < 59 by omega) hc hm hen
  obtain ⟨pl, P', Q', reach', sevR', g1, g2, g3⟩ := p_L60 (n := n) (C_starts := C_starts) (C_severalStarts := C_severalStarts) hm ha hR hA hW hw hr hr2 he hc hst n 1 0 _ _ reach sevR (Nat.le_refl 1) (by omega) (by unfold grl; omega) f1 f2 f3 (Or.inl ⟨rfl, rfl⟩) (fun q q1 q2 => by rw [if_neg (by omega)]; exact hro q q1 q2)
  refine ⟨reach', sevR', ?_, g2, g3⟩
  unfold f_Chart_waysToEnd
  rw [p_firstOf hR hA (by omega), bind_some, p_lengthOf hR hA hr, bind_some, p_symAt hA hus h1.1, bind_some, p_endsOf hm ha hW hw hal (by omega), bind_some, p_severalEndsOf hm ha hal, bind_some, nI_1, nI_add]
  rw [show (0 : Int32) = nI 0 from rfl]
  have g1' : f_Chart_waysToEnd_L60 n (nI (fi r + grl fi r)) (nI e) S_size S_typeRanks R_used R_all W_length W_row C_starts C_severalStarts n (nI (fi r + 1)) (nI 0) (c_ev (gvt ty rk) C_severalEnds (al (fi r))) (c_en (gvt ty rk) rw_ C_ends (al (fi r)) i) reach sevR = _ := g1
  rw [g1', bind_some]
end WT
