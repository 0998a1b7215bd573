section FA
variable {n sz so : Nat} {ty rk : Nat → Option Nat} {cl us : Nat} {op : Bool} {rs fi al : Nat → Nat} {S_size S_sorts : Int32} {S_types S_ranks S_typeRanks : Nat → Int32} {R_closed R_used R_isOpen : Int32} {R_sorts R_all R_firsts R_newestWraps R_olderWraps : Nat → Int32} {u : Nat} {ln : Nat} {rw_ : Nat → Nat} {W_length : Int32} {W_row : Nat → Int32} {C_starts C_severalStarts C_ends C_severalEnds : Nat → Int64} {c : Nat → Nat → Nat → Nat}
/-- what a rule of several symbols gives to the stretch from i to e -/
def c_b2 (ty rk : Nat → Option Nat) (rs fi al rw_ : Nat → Nat) (c : Nat → Nat → Nat → Nat) (i e r A : Nat) : Nat := if grs rk rs r = A then (if grl fi r = 1 then 0 else g_wy rw_ (gvt ty rk) (gra fi al) c r (grl fi r) i e) else 0
/-- the sets kept for the places of a rule that is short enough -/
def c_rr (ty rk : Nat → Option Nat) (fi al rw_ : Nat → Nat) (c : Nat → Nat → Nat → Nat) (i m e r : Nat) (reach sevR : Nat → Int64) : Prop := 2 ≤ grl fi r → grl fi r ≤ m → ∀ q, 1 ≤ q → q < grl fi r → c_rok rw_ (gvt ty rk) (gra fi al) c r i (q + 1) e (reach (fi r + q)) (sevR (fi r + q))
theorem p_rules (hn : 40000 ≤ n) (hm : m_S sz so ty rk) (ha : a_S sz so ty rk S_size S_sorts S_types S_ranks S_typeRanks) (hR : m_R sz ty rk cl us op rs fi al) (hA : a_R ty rk cl us op rs fi al R_closed R_used R_isOpen R_sorts R_all R_firsts R_newestWraps R_olderWraps) (hW : m_W sz ln rw_) (hw : a_W ln rw_ W_length W_row) (hu : u ≤ cl)
    {i e to : Nat} (hi : i < e) (he : e ≤ to) (hto : to ≤ ln) (hc : ∀ A k l, k < l → c A k l ≤ 2)
    (hst : ∀ A, A < so → (∀ k, bb (C_severalStarts (A * 60 + e)) k = true → bb (C_starts (A * 60 + e)) k = true) ∧ ∀ k, bv (C_starts (A * 60 + e)) (C_severalStarts (A * 60 + e)) k = if i < k ∧ k < e then c A k e else 0)
    (hen : ∀ A, A < so → (∀ k, bb (C_severalEnds A) k = true → bb (C_ends A) k = true) ∧ (∀ k, bb (C_ends A) k = true → k < 60) ∧ ∀ k, k < e → bv (C_ends A) (C_severalEnds A) k = if i < k then c A i k else 0) (v : Nat → Nat) :
    ∀ (k r q : Nat) (qs : Nat → Nat) (C_queued : Int32) (reach sevR : Nat → Int64) (C_found C_queue : Nat → Int32), r ≤ u → u - r < k → c_q so qs q C_queued C_found C_queue → (∀ A, A < so → ct qs q A = s2 (v A + sm r (fun z => c_b2 ty rk rs fi al rw_ c i e z A))) →
      (∀ z, z < u → c_rr ty rk fi al rw_ c i (to - i) (if z < r then e + 1 else e) z reach sevR) →
    ∃ w qs' q' C_queued' reach' sevR' C_found' C_queue', f_Chart_findTrees_L56 n (nI i) (nI e) (nI to) S_size S_ranks S_typeRanks R_closed R_used R_sorts R_all R_firsts W_length W_row (nI u) C_starts C_severalStarts C_ends C_severalEnds k (nI r) C_queued reach sevR C_found C_queue = some (w, C_queued', reach', sevR', C_found', C_queue') ∧ c_q so qs' q' C_queued' C_found' C_queue' ∧
      (∀ A, A < so → ct qs' q' A = s2 (v A + sm u (fun z => c_b2 ty rk rs fi al rw_ c i e z A))) ∧ (∀ z, z < u → c_rr ty rk fi al rw_ c i (to - i) (e + 1) z reach' sevR') := by
  have hcl := hR.1
  have hus := hR.2.1
  have h59 := hW.1
  intro k
  induction k with
  | zero => intro r q qs C_queued reach sevR C_found C_queue _ h; exact absurd h (Nat.not_lt_zero _)
  | succ k ih =>
    intro r q qs C_queued reach sevR C_found C_queue hr hk hq hct hrr
    rw [f_Chart_findTrees_L56]
    by_cases h1 : u ≤ r
    · have e1 : r = u := by omega
      subst e1
      rw [if_pos (by rw [i_le (by omega) (by omega)]; exact h1)]
      refine ⟨_, qs, q, _, _, _, _, _, rfl, hq, hct, fun z hz => ?_⟩
      have := hrr z hz
      rw [if_pos hz] at this
      exact this
    · have hf := m_fi_us hR (show r < cl by omega)
      have hlen := (hR.2.2.2.1 r (by omega)).2
      have hgl : grl fi r < 2 ^ 31 := by unfold grl; omega
      have hg1 : 1 ≤ grl fi r := by unfold grl; omega
      rw [if_neg (by rw [i_le (by omega) (by omega)]; exact h1), p_lengthOf hR hA (by omega), bind_some, nI_1, pk_sub (show i ≤ to by omega)]
      have skip : (∀ A, c_b2 ty rk rs fi al rw_ c i e r A = 0) → ¬ (2 ≤ grl fi r ∧ grl fi r ≤ to - i) → ∃ w qs' q' C_queued' reach' sevR' C_found' C_queue', f_Chart_findTrees_L56 n (nI i) (nI e) (nI to) S_size S_ranks S_typeRanks R_closed R_used R_sorts R_all R_firsts W_length W_row (nI u) C_starts C_severalStarts C_ends C_severalEnds k (nI (r + 1)) C_queued reach sevR C_found C_queue = some (w, C_queued', reach', sevR', C_found', C_queue') ∧ c_q so qs' q' C_queued' C_found' C_queue' ∧
          (∀ A, A < so → ct qs' q' A = s2 (v A + sm u (fun z => c_b2 ty rk rs fi al rw_ c i e z A))) ∧ (∀ z, z < u → c_rr ty rk fi al rw_ c i (to - i) (e + 1) z reach' sevR') := fun h0 hno =>
        ih (r + 1) q qs C_queued reach sevR C_found C_queue (by omega) (by omega) hq (fun A hA2 => by
          rw [hct A hA2]
          show _ = s2 (v A + (sm r (fun z => c_b2 ty rk rs fi al rw_ c i e z A) + c_b2 ty rk rs fi al rw_ c i e r A))
          rw [h0, Nat.add_zero]) (fun z hz => by
          by_cases zr : z = r
          · intro g1 g2
            rw [zr] at g1 g2
            exact absurd ⟨g1, g2⟩ hno
          · have := hrr z hz
            by_cases zl : z < r
            · rw [if_pos zl] at this; rw [if_pos (by omega)]; exact this
            · rw [if_neg zl] at this; rw [if_neg (by omega)]; exact this)
      by_cases h2 : grl fi r ≤ 1
      · rw [if_pos (by rw [i_lit, i_le (by decide) hgl]; exact h2)]
        refine skip (fun A => ?_) (by omega)
        unfold c_b2
        split
        · exact if_pos (by omega)
        · rfl
      · rw [if_neg (by rw [i_lit, i_le (by decide) hgl]; exact h2)]
        by_cases h3 : to - i < grl fi r
        · rw [if_pos (by rw [i_lt hgl (by omega)]; exact h3)]
          refine skip (fun A => ?_) (by omega)
          unfold c_b2
          split
          · rw [if_neg (by omega), g_wy_0 (by omega)]
          · rfl
        · rw [if_neg (by rw [i_lt hgl (by omega)]; exact h3), p_sortOf hR hA (by omega), bind_some]
          have hr0 := hrr r (by omega)
          rw [if_neg (Nat.lt_irrefl r)] at hr0
          obtain ⟨reach1, sevR1, w1, w2, w3⟩ := p_waysToEnd (n := n) hn hm ha hR hA hW hw (show r < cl by omega) (by omega) hi (by omega) hc hst hen reach sevR (hr0 (by omega) (by omega))
          obtain ⟨s1, s2', ks, s3⟩ := hR.2.2.2.2.2.2.2.2.2 r (Or.inl (by omega))
          obtain ⟨qs1, q1, b1, b2, b3, e1, e2, e3, e4, e5, e6⟩ := p_addTrees (n := n) hn hm ha s1 s3 (s2_le (g_wy rw_ (gvt ty rk) (gra fi al) c r (grl fi r) i e)) hq
          have hgr : grs rk rs r = ks := by unfold grs; rw [s3]; rfl
          rw [w1, bind_some, e1, bind_some]
          refine ih (r + 1) q1 qs1 b1 reach1 sevR1 b2 b3 (by omega) (by omega) e2 (fun A hA2 => ?_) (fun z hz => ?_)
          · show _ = s2 (v A + (sm r (fun z => c_b2 ty rk rs fi al rw_ c i e z A) + c_b2 ty rk rs fi al rw_ c i e r A))
            rw [e6]
            have hone : c_b2 ty rk rs fi al rw_ c i e r A = if A = ks then g_wy rw_ (gvt ty rk) (gra fi al) c r (grl fi r) i e else 0 := by
              unfold c_b2
              rw [hgr]
              by_cases z : A = ks
              · rw [if_pos z.symm, if_pos z, if_neg (by omega)]
              · rw [if_neg (fun w => z w.symm), if_neg z]
            rw [hone]
            by_cases z : A = ks
            · rw [if_pos z, if_pos z, ← z, hct A hA2, ← s2_add, Nat.add_assoc]
            · rw [if_neg z, if_neg z, hct A hA2, Nat.add_zero]
          · by_cases zr : z = r
            · rw [zr, if_pos (Nat.lt_succ_self r)]
              intro _ _
              exact w2
            · have h9 := hrr z hz
              have hfz := m_fi_us hR (show z < cl by omega)
              have hap : ∀ p, p < grl fi z → fi z + p < fi r ∨ fi (r + 1) ≤ fi z + p := fun p hp => by
                have hz1 : fi z + grl fi z = fi (z + 1) := by unfold grl; omega
                rcases Nat.lt_or_ge z r with w | w
                · left
                  have := m_fi_mono (fun y hy => (hR.2.2.2.1 y hy).1) (show z + 1 ≤ r from w) (show r ≤ cl by omega)
                  omega
                · right
                  have := m_fi_mono (fun y hy => (hR.2.2.2.1 y hy).1) (show r + 1 ≤ z by omega) (show z ≤ cl by omega)
                  omega
              intro g1 g2 p p1 p2
              obtain ⟨m1, m2⟩ := w3 (fi z + p) (hap p p2)
              rw [m1, m2]
              by_cases zl : z < r
              · rw [if_pos zl] at h9; rw [if_pos (by omega)]; exact h9 g1 g2 p p1 p2
              · rw [if_neg zl] at h9; rw [if_neg (by omega)]; exact h9 g1 g2 p p1 p2
end FA
