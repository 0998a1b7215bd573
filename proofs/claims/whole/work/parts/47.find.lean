/-! findTrees of the class: what a variable alone, rules of one constant, and rules of several symbols give -/
section FT
variable {n sz so : Nat} {ty rk : Nat → Option Nat} {cl us : Nat} {op : Bool} {rs fi al : Nat → Nat} {S_size S_sorts : Int32} {S_types S_ranks S_typeRanks : Nat → Int32} {R_closed R_used R_isOpen : Int32} {R_sorts R_all R_firsts R_newestWraps R_olderWraps : Nat → Int32} {u : Nat} {ln : Nat} {rw_ : Nat → Nat} {W_length : Int32} {W_row : Nat → Int32} {C_starts C_severalStarts C_ends C_severalEnds : Nat → Int64} {c : Nat → Nat → Nat → Nat}
theorem p_zero (hso : so ≤ 100) : ∀ (k v : Nat) (C_found : Nat → Int32), v ≤ so → so - v < k → ∃ w C_found', f_Chart_findTrees_L8 n (nI so) k (nI v) C_found = some (w, C_found') ∧ (∀ A, v ≤ A → A < so → C_found' A = 0) ∧ ∀ A, A < v → C_found' A = C_found A := by
  intro k
  induction k with
  | zero => intro v C_found _ h; exact absurd h (Nat.not_lt_zero _)
  | succ k ih =>
    intro v C_found hv hk
    rw [f_Chart_findTrees_L8]
    unfold f_Symbols_sorts
    rw [bind_some]
    by_cases h : so ≤ v
    · rw [if_pos (by rw [i_le (by omega) (by omega)]; exact h)]
      exact ⟨_, _, rfl, fun A h1 h2 => by omega, fun _ _ => rfl⟩
    · rw [if_neg (by rw [i_le (by omega) (by omega)]; exact h), x_gI (by omega) (by decide), nI_clamp (by omega), nI_1]
      obtain ⟨w, f', g1, g2, g3⟩ := ih (v + 1) (upd C_found v 0) (by omega) (by omega)
      refine ⟨w, f', g1, fun A h1 h2 => ?_, fun A hA => ?_⟩
      · by_cases z : A = v
        · rw [z, g3 v (by omega), pk_us]
        · exact g2 A (by omega) h2
      · rw [g3 A (by omega), pk_un (by omega)]
/-- what a rule of one constant gives to a stretch of one place -/
def c_b1 (ty rk : Nat → Option Nat) (rs fi al rw_ : Nat → Nat) (i r A : Nat) : Nat := if grs rk rs r = A then (if grl fi r = 1 ∧ gvt ty rk (gra fi al r 0) = none ∧ rw_ i = gra fi al r 0 then 1 else 0) else 0
theorem p_singles (hn : 40000 ≤ n) (hm : m_S sz so ty rk) (ha : a_S sz so ty rk S_size S_sorts S_types S_ranks S_typeRanks) (hR : m_R sz ty rk cl us op rs fi al) (hA : a_R ty rk cl us op rs fi al R_closed R_used R_isOpen R_sorts R_all R_firsts R_newestWraps R_olderWraps) (hu : u ≤ cl) {i : Nat} (hi : rw_ i < sz) (hcon : ty (rw_ i) = none) (v : Nat → Nat) :
    ∀ (k r q : Nat) (qs : Nat → Nat) (C_queued : Int32) (C_found C_queue : Nat → Int32), r ≤ u → u - r < k → c_q so qs q C_queued C_found C_queue → (∀ A, A < so → ct qs q A = s2 (v A + sm r (fun z => c_b1 ty rk rs fi al rw_ i z A))) →
    ∃ w qs' q' C_queued' C_found' C_queue', f_Chart_findSingles_L27 n (nI (rw_ i)) S_size S_ranks R_closed R_used R_sorts R_all R_firsts (nI u) k (nI r) C_queued C_found C_queue = some (w, C_queued', C_found', C_queue') ∧ c_q so qs' q' C_queued' C_found' C_queue' ∧ (∀ A, A < so → ct qs' q' A = s2 (v A + sm u (fun z => c_b1 ty rk rs fi al rw_ i z A))) := by
  have hcl := hR.1
  have hus := hR.2.1
  have hsz := hm.1
  intro k
  induction k with
  | zero => intro r q qs C_queued C_found C_queue _ h; exact absurd h (Nat.not_lt_zero _)
  | succ k ih =>
    intro r q qs C_queued C_found C_queue hr hk hq hct
    rw [f_Chart_findSingles_L27]
    by_cases h1 : u ≤ r
    · have e : r = u := by omega
      subst e
      rw [if_pos (by rw [i_le (by omega) (by omega)]; exact h1)]
      exact ⟨_, qs, q, _, _, _, rfl, hq, hct⟩
    · have hf := m_fi_us hR (show r < cl by omega)
      have hal := hR.2.2.2.2.2.2.2.2.1 (fi r) hf.1
      have hlen := (hR.2.2.2.1 r (by omega)).2
      have hgl : grl fi r < 2 ^ 31 := by unfold grl; omega
      rw [if_neg (by rw [i_le (by omega) (by omega)]; exact h1), p_lengthOf hR hA (by omega), bind_some, nI_1]
      have skip : c_b1 ty rk rs fi al rw_ i r = (fun _ => 0) → ∃ w qs' q' C_queued' C_found' C_queue', f_Chart_findSingles_L27 n (nI (rw_ i)) S_size S_ranks R_closed R_used R_sorts R_all R_firsts (nI u) k (nI (r + 1)) C_queued C_found C_queue = some (w, C_queued', C_found', C_queue') ∧ c_q so qs' q' C_queued' C_found' C_queue' ∧ (∀ A, A < so → ct qs' q' A = s2 (v A + sm u (fun z => c_b1 ty rk rs fi al rw_ i z A))) := fun h0 =>
        ih (r + 1) q qs C_queued C_found C_queue (by omega) (by omega) hq (fun A hA2 => by
          rw [hct A hA2]
          show _ = s2 (v A + (sm r (fun z => c_b1 ty rk rs fi al rw_ i z A) + c_b1 ty rk rs fi al rw_ i r A))
          rw [h0, Nat.add_zero])
      by_cases h2 : grl fi r = 1
      · rw [if_pos (by rw [h2]; rfl), p_firstOf hR hA (by omega), bind_some, p_symAt hA hus hf.1, bind_some]
        by_cases h3 : al (fi r) = rw_ i
        · obtain ⟨s1, s2', ks, s3⟩ := hR.2.2.2.2.2.2.2.2.2 r (Or.inl (by omega))
          obtain ⟨qs1, q1, b1, b2, b3, e1, e2, e3, e4, e5, e6⟩ := p_addTrees (n := n) (m := 1) hn hm ha s1 s3 (by omega) hq
          have e1' : f_Chart_addTrees n S_size S_ranks C_queued C_found C_queue (nI (rs r)) (1 : Int32) = some (b1, b2, b3) := e1
          have hgr : grs rk rs r = ks := by unfold grs; rw [s3]; rfl
          rw [if_pos (by rw [h3]), p_sortOf hR hA (by omega), bind_some, e1', bind_some]
          refine ih (r + 1) q1 qs1 b1 b2 b3 (by omega) (by omega) e2 (fun A hA2 => ?_)
          show _ = s2 (v A + (sm r (fun z => c_b1 ty rk rs fi al rw_ i z A) + c_b1 ty rk rs fi al rw_ i r A))
          rw [e6]
          have hone : c_b1 ty rk rs fi al rw_ i r A = if A = ks then 1 else 0 := by
            unfold c_b1
            rw [hgr]
            by_cases z : A = ks
            · rw [if_pos z.symm, if_pos z, if_pos ⟨h2, by rw [gvt_none hm (by show al (fi r + 0) < sz; exact hal)]; show ty (al (fi r)) = none; rw [h3]; exact hcon, h3.symm⟩]
            · rw [if_neg (fun w => z w.symm), if_neg z]
          rw [hone]
          by_cases z : A = ks
          · rw [if_pos z, if_pos z, ← z, hct A hA2, s2_addl, Nat.add_assoc]
          · rw [if_neg z, if_neg z, hct A hA2, Nat.add_zero]
        · rw [if_neg (by rw [i_eq (by omega) (by omega)]; exact h3)]
          refine skip (funext fun A => ?_)
          unfold c_b1
          split
          · exact if_neg (fun w => h3 w.2.2.symm)
          · rfl
      · rw [if_neg (by rw [i_lit, i_eq (by decide) hgl]; exact h2)]
        refine skip (funext fun A => ?_)
        unfold c_b1
        split
        · exact if_neg (fun w => h2 w.1)
        · rfl
/-- singles: a variable alone, or rules of just that constant -/
theorem p_findSingles (hn : 40000 ≤ n) (hm : m_S sz so ty rk) (ha : a_S sz so ty rk S_size S_sorts S_types S_ranks S_typeRanks) (hR : m_R sz ty rk cl us op rs fi al) (hA : a_R ty rk cl us op rs fi al R_closed R_used R_isOpen R_sorts R_all R_firsts R_newestWraps R_olderWraps) (hu : u ≤ cl) {i : Nat} (hi : rw_ i < sz)
    {q : Nat} {qs : Nat → Nat} {C_queued : Int32} {C_found C_queue : Nat → Int32} (hq : c_q so qs q C_queued C_found C_queue) (h0 : ∀ A, A < so → ct qs q A = 0) :
    ∃ qs' q' C_queued' C_found' C_queue', f_Chart_findSingles n S_size S_types S_ranks R_closed R_used R_sorts R_all R_firsts C_queued (nI u) C_found C_queue (nI (rw_ i)) = some (C_queued', C_found', C_queue') ∧ c_q so qs' q' C_queued' C_found' C_queue' ∧
      (∀ A, A < so → ct qs' q' A = s2 ((if gvt ty rk (rw_ i) = some A then 1 else 0) + sm u (fun z => c_b1 ty rk rs fi al rw_ i z A))) := by
  unfold f_Chart_findSingles
  rw [p_isV hm ha hi, bind_some]
  by_cases hc : ty (rw_ i) = none
  · rw [if_pos hc, if_pos rfl]
    have hg : gvt ty rk (rw_ i) = none := (gvt_none hm hi).mpr hc
    obtain ⟨w, qs', q', a1, a2, a3, g1, g2, g3⟩ := p_singles (n := n) hn hm ha hR hA hu hi hc (fun _ => 0) n 0 q qs C_queued C_found C_queue (Nat.zero_le _) (by have := hR.1; omega) hq (fun A hA2 => by rw [h0 A hA2]; rfl)
    rw [show (0 : Int32) = nI 0 from rfl, g1, bind_some]
    refine ⟨qs', q', _, _, _, rfl, g2, fun A hA2 => ?_⟩
    rw [g3 A hA2, hg, if_neg (fun h => by cases h)]
  · rw [if_neg hc, if_neg (show ¬ (1 : Int32) = 0 by decide), p_typeOf hm ha hi, bind_some]
    cases ht : ty (rw_ i) with
    | none => exact absurd ht hc
    | some t =>
      obtain ⟨t1, t2, ks, t3⟩ := hm.2.2.1 _ hi t ht
      obtain ⟨qs1, q1, b1, b2, b3, e1, e2, e3, e4, e5, e6⟩ := p_addTrees (n := n) (m := 1) hn hm ha t1 t3 (by omega) hq
      have e1' : f_Chart_addTrees n S_size S_ranks C_queued C_found C_queue (oI (some t)) (1 : Int32) = some (b1, b2, b3) := e1
      have hg : gvt ty rk (rw_ i) = some ks := by unfold gvt; rw [ht]; exact t3
      rw [e1', bind_some]
      refine ⟨qs1, q1, _, _, _, rfl, e2, fun A hA2 => ?_⟩
      rw [e6, hg, sm_0 (fun z _ => by
        unfold c_b1
        split
        · refine if_neg (fun w => ?_)
          rw [← w.2.2, hg] at w
          exact absurd w.2.1 (fun h => by cases h)
        · rfl), Nat.add_zero]
      by_cases z : A = ks
      · rw [if_pos z, if_pos (by rw [z]), h0 ks (hm.2.2.2.1 t ks t3).2.1]
      · rw [if_neg z, if_neg (fun h => z (Option.some.inj h).symm), h0 A hA2]; rfl
end FT
