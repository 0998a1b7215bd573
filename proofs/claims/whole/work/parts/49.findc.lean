section FC
variable {n sz so : Nat} {ty rk : Nat → Option Nat} {cl us : Nat} {op : Bool} {rs fi al : Nat → Nat} {S_size S_sorts : Int32} {S_types S_ranks S_typeRanks : Nat → Int32} {R_closed R_used R_isOpen : Int32} {R_sorts R_all R_firsts R_newestWraps R_olderWraps : Nat → Int32} {u : Nat} {ln : Nat} {rw_ : Nat → Nat} {W_length : Int32} {W_row : Nat → Int32} {C_starts C_severalStarts C_ends C_severalEnds : Nat → Int64}
/-- the count over the model -/
noncomputable def m_C (ty rk : Nat → Option Nat) (rs fi al rw_ : Nat → Nat) (u A i j : Nat) : Nat := g_C rw_ (gvt ty rk) (grs rk rs) (grl fi) (gra fi al) u A i j
theorem m_C_2 {A i j : Nat} (h : i < j) : m_C ty rk rs fi al rw_ u A i j ≤ 2 := g_C_2 A i j h
theorem grs_lt (hm : m_S sz so ty rk) (hR : m_R sz ty rk cl us op rs fi al) {r : Nat} (hr : r < cl) : grs rk rs r < so := by
  obtain ⟨-, -, k, hk⟩ := hR.2.2.2.2.2.2.2.2.2 r (Or.inl hr)
  unfold grs
  rw [hk]
  exact (hm.2.2.2.1 _ k hk).2.1
theorem m_b_split {c : Nat → Nat → Nat → Nat} {A i j : Nat} : g_b rw_ (gvt ty rk) (grs rk rs) (grl fi) (gra fi al) u c A i j = (if j = i + 1 ∧ gvt ty rk (rw_ i) = some A then 1 else 0) + (if j = i + 1 then sm u (fun z => c_b1 ty rk rs fi al rw_ i z A) else 0) + sm u (fun z => c_b2 ty rk rs fi al rw_ c i j z A) := by
  unfold g_b
  rw [Nat.add_assoc]
  congr 1
  have e : (if j = i + 1 then sm u (fun z => c_b1 ty rk rs fi al rw_ i z A) else 0) = sm u (fun z => if j = i + 1 then c_b1 ty rk rs fi al rw_ i z A else 0) := by
    by_cases q : j = i + 1
    · rw [if_pos q]
      exact sm_congr (fun z _ => (if_pos q).symm)
    · rw [if_neg q]
      exact (sm_0 (fun z _ => if_neg q)).symm
  rw [e, ← sm_add]
  refine sm_congr (fun r _ => ?_)
  unfold c_b1 c_b2
  by_cases hA : grs rk rs r = A
  · rw [if_pos hA, if_pos hA, if_pos hA]
    by_cases hl : grl fi r = 1
    · rw [if_pos hl, if_pos hl, Nat.add_zero]
      by_cases q : j = i + 1
      · rw [if_pos q]
        by_cases w : gvt ty rk (gra fi al r 0) = none ∧ rw_ i = gra fi al r 0
        · rw [if_pos ⟨w.1, q, w.2⟩, if_pos ⟨hl, w⟩]
        · rw [if_neg (fun z => w ⟨z.1, z.2.2⟩), if_neg (fun z => w z.2)]
      · rw [if_neg q, if_neg (fun z => q z.2.1)]
    · rw [if_neg hl, if_neg hl]
      have : (if j = i + 1 then (if grl fi r = 1 ∧ gvt ty rk (gra fi al r 0) = none ∧ rw_ i = gra fi al r 0 then 1 else 0) else 0) = 0 := by
        split
        · exact if_neg (fun z => hl z.1)
        · rfl
      rw [this, Nat.zero_add]
  · rw [if_neg hA, if_neg hA, if_neg hA]
    simp
theorem p_wrapC (hn : 40000 ≤ n) (hm : m_S sz so ty rk) (ha : a_S sz so ty rk S_size S_sorts S_types S_ranks S_typeRanks) (hR : m_R sz ty rk cl us op rs fi al) (hA : a_R ty rk cl us op rs fi al R_closed R_used R_isOpen R_sorts R_all R_firsts R_newestWraps R_olderWraps) (hu : u ≤ cl) {i e : Nat} (hi : i < e)
    {q : Nat} {qs : Nat → Nat} {C_queued : Int32} {C_found C_queue : Nat → Int32} (hq : c_q so qs q C_queued C_found C_queue) (hb : ∀ A, A < so → ct qs q A = s2 (g_b rw_ (gvt ty rk) (grs rk rs) (grl fi) (gra fi al) u (m_C ty rk rs fi al rw_ u) A i e)) :
    ∃ C_queued' C_found' C_queue', f_Chart_wrapTrees n S_size S_ranks R_closed R_sorts R_newestWraps R_olderWraps C_queued (nI u) C_found C_queue = some (C_queued', C_found', C_queue') ∧ ∀ A, A < so → C_found' A = nI (m_C ty rk rs fi al rw_ u A i e) := by
  obtain ⟨qs', q', a1, a2, a3, g1, g2, g3, g4⟩ := p_wrapTrees (n := n) hn hm ha hR hA hu (fun A => g_b rw_ (gvt ty rk) (grs rk rs) (grl fi) (gra fi al) u (m_C ty rk rs fi al rw_ u) A i e) hq hb
  refine ⟨a1, a2, a3, g1, fun A hA2 => ?_⟩
  have h1 : ∀ r, r < u → 1 ≤ grl fi r := fun r hr => by
    have := m_fi_us hR (show r < cl by omega)
    unfold grl
    omega
  have h2 : ∀ r, r < u → ∀ B, gvt ty rk (gra fi al r 0) = some B → B < so := fun r _ B h => gvt_lt hm h
  have big : ∀ A, so ≤ A → ct qs' q' A = 0 := fun A hA3 => sm_0 (fun t ht => if_neg (fun z => by
    have := (g2.2.1 t ht).2
    omega))
  have bigb : ∀ A, so ≤ A → ∀ f : Nat → Nat, s2 (g_b rw_ (gvt ty rk) (grs rk rs) (grl fi) (gra fi al) u (g_C rw_ (gvt ty rk) (grs rk rs) (grl fi) (gra fi al) u) A i e + sm so (fun B => g_um (gvt ty rk) (grs rk rs) (grl fi) (gra fi al) u A B * f B)) = 0 := fun A hA3 f => by
    have e1 : g_b rw_ (gvt ty rk) (grs rk rs) (grl fi) (gra fi al) u (g_C rw_ (gvt ty rk) (grs rk rs) (grl fi) (gra fi al) u) A i e = 0 := by
      unfold g_b
      rw [if_neg (fun z => by have := gvt_lt hm z.2; omega), Nat.zero_add]
      exact sm_0 (fun r hr => if_neg (fun z => by have := grs_lt hm hR (show r < cl by omega); omega))
    have e2 : ∀ B, g_um (gvt ty rk) (grs rk rs) (grl fi) (gra fi al) u A B = 0 := fun B => sm_0 (fun r hr => if_neg (fun z => by have := grs_lt hm hR (show r < cl by omega); omega))
    rw [e1, sm_0 (fun B _ => by rw [e2, Nat.zero_mul])]
    rfl
  have key := g_C_by (x := rw_) (vt := gvt ty rk) (rs := grs rk rs) (rl := grl fi) (ra := gra fi al) (lim := u) (so := so) hi h1 h2 (fun A => ct qs' q' A)
    (fun A => by
      rcases Nat.lt_or_ge A so with z | z
      · exact Nat.le_of_eq (g3 A z).symm
      · rw [bigb A z]; exact Nat.zero_le _)
    (fun h hh A => by
      rcases Nat.lt_or_ge A so with z | z
      · exact g4 h (fun A _ => hh A) A z
      · show ct qs' q' A ≤ h A
        rw [big A z]; exact Nat.zero_le _) A
  rw [(g2.2.2 A hA2).1]
  exact congrArg nI key
theorem p_findTrees (hn : 40000 ≤ n) (hm : m_S sz so ty rk) (ha : a_S sz so ty rk S_size S_sorts S_types S_ranks S_typeRanks) (hR : m_R sz ty rk cl us op rs fi al) (hA : a_R ty rk cl us op rs fi al R_closed R_used R_isOpen R_sorts R_all R_firsts R_newestWraps R_olderWraps) (hW : m_W sz ln rw_) (hw : a_W ln rw_ W_length W_row) (hu : u ≤ cl)
    {i e to : Nat} (hi : i < e) (he : e ≤ to) (hto : to ≤ ln)
    (hst : ∀ A, A < so → (∀ k, bb (C_severalStarts (A * 60 + e)) k = true → bb (C_starts (A * 60 + e)) k = true) ∧ ∀ k, bv (C_starts (A * 60 + e)) (C_severalStarts (A * 60 + e)) k = if i < k ∧ k < e then m_C ty rk rs fi al rw_ u A k e else 0)
    (hen : ∀ A, A < so → (∀ k, bb (C_severalEnds A) k = true → bb (C_ends A) k = true) ∧ (∀ k, bb (C_ends A) k = true → k < 60) ∧ ∀ k, k < e → bv (C_ends A) (C_severalEnds A) k = if i < k then m_C ty rk rs fi al rw_ u A i k else 0)
    (reach sevR : Nat → Int64) (C_found C_queue : Nat → Int32) (hrr : ∀ z, z < u → c_rr ty rk fi al rw_ (m_C ty rk rs fi al rw_ u) i (to - i) e z reach sevR) :
    ∃ C_queued' reach' sevR' C_found' C_queue', f_Chart_findTrees n S_size S_sorts S_types S_ranks S_typeRanks R_closed R_used R_sorts R_all R_firsts R_newestWraps R_olderWraps W_length W_row (nI u) C_starts C_severalStarts C_ends C_severalEnds reach sevR C_found C_queue (nI i) (nI e) (nI to) = some (C_queued', reach', sevR', C_found', C_queue') ∧
      (∀ A, A < so → C_found' A = nI (m_C ty rk rs fi al rw_ u A i e)) ∧ (∀ z, z < u → c_rr ty rk fi al rw_ (m_C ty rk rs fi al rw_ u) i (to - i) (e + 1) z reach' sevR') := by
  have hcl := hR.1
  have h59 := hW.1
  have hso := hm.2.1
  obtain ⟨w, f0, z1, z2, -⟩ := p_zero (n := n) hso n 0 C_found (Nat.zero_le _) (by omega)
  have hq0 : c_q so (fun _ => 0) 0 0 f0 C_queue := ⟨rfl, fun t ht => absurd ht (Nat.not_lt_zero _), fun A hA2 => ⟨by rw [z2 A (Nat.zero_le _) hA2]; rfl, Nat.zero_le _⟩⟩
  have hc2 : ∀ A k l, k < l → m_C ty rk rs fi al rw_ u A k l ≤ 2 := fun A k l h => m_C_2 h
  have hrr0 : ∀ z, z < u → c_rr ty rk fi al rw_ (m_C ty rk rs fi al rw_ u) i (to - i) (if z < 0 then e + 1 else e) z reach sevR := fun z hz => by
    rw [if_neg (Nat.not_lt_zero z)]; exact hrr z hz
  unfold f_Chart_findTrees
  rw [ha.2.1, show (0 : Int32) = nI 0 from rfl, z1, bind_some, nI_1]
  by_cases hone : e = i + 1
  · have hrow : rw_ i < sz := hW.2 i (by omega)
    obtain ⟨qs1, q1, b1, b2, b3, e1, e2, e3⟩ := p_findSingles (n := n) (rw_ := rw_) (i := i) hn hm ha hR hA hu hrow hq0 (fun A _ => rfl)
    have e1' : f_Chart_findSingles n S_size S_types S_ranks R_closed R_used R_sorts R_all R_firsts (nI 0) (nI u) f0 C_queue (nI (rw_ i)) = some (b1, b2, b3) := e1
    obtain ⟨v, qs2, q2, d1, d2, d3, d4, d5, g1, g2, g3, g4⟩ := p_rules (n := n) (C_starts := C_starts) (C_severalStarts := C_severalStarts) (C_ends := C_ends) (C_severalEnds := C_severalEnds) hn hm ha hR hA hW hw hu hi he hto hc2 hst hen (fun A => (if gvt ty rk (rw_ i) = some A then 1 else 0) + sm u (fun z => c_b1 ty rk rs fi al rw_ i z A)) n 0 q1 qs1 b1 reach sevR b2 b3 (Nat.zero_le _) (by omega) e2 (fun A hA2 => by rw [e3 A hA2, show sm 0 _ = 0 from rfl, Nat.add_zero]) hrr0
    obtain ⟨k1, k2, k3, m1, m2⟩ := p_wrapC (n := n) (rw_ := rw_) hn hm ha hR hA hu hi g2 (fun A hA2 => by
      rw [g3 A hA2, m_b_split, if_pos hone]
      congr 3
      by_cases z : gvt ty rk (rw_ i) = some A
      · rw [if_pos z, if_pos ⟨hone, z⟩]
      · rw [if_neg z, if_neg (fun w => z w.2)])
    rw [if_pos (by rw [hone]), p_rowAt hW hw (by omega), bind_some, e1', bind_some, g1, bind_some, m1, bind_some]
    exact ⟨_, _, _, _, _, rfl, m2, g4⟩
  · obtain ⟨v, qs2, q2, d1, d2, d3, d4, d5, g1, g2, g3, g4⟩ := p_rules (n := n) (C_starts := C_starts) (C_severalStarts := C_severalStarts) (C_ends := C_ends) (C_severalEnds := C_severalEnds) hn hm ha hR hA hW hw hu hi he hto hc2 hst hen (fun _ => 0) n 0 0 (fun _ => 0) 0 reach sevR f0 C_queue (Nat.zero_le _) (by omega) hq0 (fun A _ => rfl) hrr0
    have g1' : f_Chart_findTrees_L56 n (nI i) (nI e) (nI to) S_size S_ranks S_typeRanks R_closed R_used R_sorts R_all R_firsts W_length W_row (nI u) C_starts C_severalStarts C_ends C_severalEnds n (nI 0) (nI 0) reach sevR f0 C_queue = some (v, d1, d2, d3, d4, d5) := g1
    obtain ⟨k1, k2, k3, m1, m2⟩ := p_wrapC (n := n) (rw_ := rw_) hn hm ha hR hA hu hi g2 (fun A hA2 => by
      rw [g3 A hA2, m_b_split, if_neg hone, if_neg (fun w => hone w.1)])
    rw [if_neg (by rw [i_eq (by omega) (by omega)]; exact hone), g1', bind_some, m1, bind_some]
    exact ⟨_, _, _, _, _, rfl, m2, g4⟩
end FC
