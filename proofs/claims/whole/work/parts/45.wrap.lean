/-! Rules of one variable: the class's queue comes to the least numbers -/
def m_cu (ty rk : Nat → Option Nat) (rs fi al : Nat → Nat) (u b A B : Nat) : Nat := sm b (fun r => if r < u ∧ m_unb ty rk fi al r = some B ∧ grs rk rs r = A then 1 else 0)
section MU
variable {ty rk : Nat → Option Nat} {rs fi al : Nat → Nat} {u : Nat}
theorem m_lu_none : ∀ {b B : Nat}, m_lu ty rk fi al b B = none → ∀ r, r < b → m_unb ty rk fi al r ≠ some B
  | 0, _, _, r, hr => absurd hr (Nat.not_lt_zero _)
  | b + 1, B, h, r, hr => by
    unfold m_lu at h
    by_cases q : m_unb ty rk fi al b = some B
    · rw [if_pos q] at h; cases h
    · rw [if_neg q] at h
      by_cases z : r = b
      · rw [z]; exact q
      · exact m_lu_none h r (by omega)
theorem m_lu_some : ∀ {b B r0 : Nat}, m_lu ty rk fi al b B = some r0 → m_unb ty rk fi al r0 = some B ∧ ∀ r, r0 < r → r < b → m_unb ty rk fi al r ≠ some B
  | 0, _, _, h => by cases h
  | b + 1, B, r0, h => by
    unfold m_lu at h
    by_cases q : m_unb ty rk fi al b = some B
    · rw [if_pos q] at h
      cases h
      exact ⟨q, fun r h1 h2 => by omega⟩
    · rw [if_neg q] at h
      obtain ⟨h1, h2⟩ := m_lu_some h
      refine ⟨h1, fun r h3 h4 => ?_⟩
      by_cases z : r = b
      · rw [z]; exact q
      · exact h2 r h3 (by omega)
theorem m_cu_none {b A B : Nat} (h : m_lu ty rk fi al b B = none) : m_cu ty rk rs fi al u b A B = 0 := sm_0 (fun r hr => if_neg (fun z => m_lu_none h r hr z.2.1))
theorem m_cu_some {b A B r0 : Nat} (h : m_lu ty rk fi al b B = some r0) : m_cu ty rk rs fi al u b A B = m_cu ty rk rs fi al u r0 A B + (if r0 < u ∧ grs rk rs r0 = A then 1 else 0) := by
  have hlt := m_lu_lt h
  obtain ⟨h1, h2⟩ := m_lu_some h
  have e : m_cu ty rk rs fi al u b A B = m_cu ty rk rs fi al u (r0 + 1) A B := sm_ext (show r0 + 1 ≤ b from hlt) (fun r q1 q2 => if_neg (fun z => h2 r q1 q2 z.2.1))
  rw [e]
  show sm r0 _ + (if r0 < u ∧ m_unb ty rk fi al r0 = some B ∧ grs rk rs r0 = A then 1 else 0) = _
  congr 1
  by_cases q : r0 < u ∧ grs rk rs r0 = A
  · rw [if_pos q, if_pos ⟨q.1, h1, q.2⟩]
  · rw [if_neg q, if_neg (fun z => q ⟨z.1, z.2.2⟩)]
theorem m_unb_vt {r B : Nat} : m_unb ty rk fi al r = some B ↔ grl fi r = 1 ∧ gvt ty rk (gra fi al r 0) = some B ∨ (fi (r + 1) = fi r + 1 ∧ gvt ty rk (al (fi r)) = some B) := by
  unfold m_unb
  constructor
  · intro h
    by_cases q : fi (r + 1) = fi r + 1
    · rw [if_pos q] at h
      exact Or.inr ⟨q, h⟩
    · rw [if_neg q] at h; cases h
  · intro h
    rcases h with ⟨h1, h2⟩ | ⟨h1, h2⟩
    · have : fi (r + 1) = fi r + 1 := by unfold grl at h1; omega
      rw [if_pos this]; exact h2
    · rw [if_pos h1]; exact h2
theorem m_cu_um {cl A B : Nat} (hu : u ≤ cl) : m_cu ty rk rs fi al u cl A B = g_um (gvt ty rk) (grs rk rs) (grl fi) (gra fi al) u A B := by
  have e : m_cu ty rk rs fi al u cl A B = m_cu ty rk rs fi al u u A B := sm_ext hu (fun r q1 q2 => if_neg (fun z => by omega))
  rw [e]
  refine sm_congr (fun r hr => ?_)
  have : (r < u ∧ m_unb ty rk fi al r = some B ∧ grs rk rs r = A) ↔ (grs rk rs r = A ∧ grl fi r = 1 ∧ gvt ty rk (gra fi al r 0) = some B) := by
    rw [m_unb_vt]
    constructor
    · rintro ⟨-, h | ⟨h1, h2⟩, h3⟩
      · exact ⟨h3, h⟩
      · exact ⟨h3, by unfold grl; omega, h2⟩
    · rintro ⟨h1, h2⟩
      exact ⟨hr, Or.inl h2, h1⟩
  by_cases q : r < u ∧ m_unb ty rk fi al r = some B ∧ grs rk rs r = A
  · rw [if_pos q, if_pos (this.mp q)]
  · rw [if_neg q, if_neg (fun z => q (this.mpr z))]
end MU
section WR
variable {n sz so : Nat} {ty rk : Nat → Option Nat} {cl us : Nat} {op : Bool} {rs fi al : Nat → Nat} {S_size S_sorts : Int32} {S_types S_ranks S_typeRanks : Nat → Int32} {R_closed R_used R_isOpen : Int32} {R_sorts R_all R_firsts R_newestWraps R_olderWraps : Nat → Int32} {u : Nat}
theorem p_wrapL37 (hn : 40000 ≤ n) (hm : m_S sz so ty rk) (ha : a_S sz so ty rk S_size S_sorts S_types S_ranks S_typeRanks) (hR : m_R sz ty rk cl us op rs fi al) (hA : a_R ty rk cl us op rs fi al R_closed R_used R_isOpen R_sorts R_all R_firsts R_newestWraps R_olderWraps) (hu : u ≤ cl) (B : Nat) :
    ∀ (k b left q : Nat) (qs : Nat → Nat) (C_queued : Int32) (C_found C_queue : Nat → Int32), b ≤ cl → b ≤ left → left ≤ 1500 → b < k → c_q so qs q C_queued C_found C_queue →
    ∃ v1 v2 qs' q' C_queued' C_found' C_queue', f_Chart_wrapTrees_L37 n S_size S_ranks R_closed R_sorts R_olderWraps (nI u) k (nI left) (oI (m_lu ty rk fi al b B)) C_queued C_found C_queue = some (v1, v2, C_queued', C_found', C_queue') ∧ c_q so qs' q' C_queued' C_found' C_queue' ∧ q ≤ q' ∧ (∀ t, t < q → qs' t = qs t) ∧ ∀ A, A < so → ct qs' q' A = s2 (ct qs q A + m_cu ty rk rs fi al u b A B) := by
  have hcl := hR.1
  intro k
  induction k with
  | zero => intro b left q qs C_queued C_found C_queue _ _ _ h; exact absurd h (Nat.not_lt_zero _)
  | succ k ih =>
    intro b left q qs C_queued C_found C_queue hb hl hl2 hk hq
    rw [f_Chart_wrapTrees_L37]
    cases hlu : m_lu ty rk fi al b B with
    | none =>
      have fin : ∀ A, A < so → ct qs q A = s2 (ct qs q A + m_cu ty rk rs fi al u b A B) := fun A hA => by
        rw [m_cu_none hlu, Nat.add_zero, s2_id (hq.2.2 A hA).2]
      by_cases h0 : left = 0
      · rw [if_pos (by rw [i_le0 (by omega)]; exact h0)]
        exact ⟨_, _, qs, q, _, _, _, rfl, hq, Nat.le_refl q, fun _ _ => rfl, fin⟩
      · rw [if_neg (by rw [i_le0 (by omega)]; exact h0), oI_none, if_pos rfl]
        exact ⟨_, _, qs, q, _, _, _, rfl, hq, Nat.le_refl q, fun _ _ => rfl, fin⟩
    | some r0 =>
      have hr0 := m_lu_lt hlu
      obtain ⟨hun, -⟩ := m_lu_some hlu
      have hold : f_Rules_olderWrap n R_closed R_olderWraps (nI r0) = some (oI (m_lu ty rk fi al r0 B)) := by
        unfold f_Rules_olderWrap
        rw [hA.1, p_isClosed hcl (by omega), bind_some, if_neg (show ¬ (1 : Int32) = 0 by decide), x_gI (by omega) (by decide), nI_clamp (by omega), hA.2.2.2.2.2.2.2 r0 (by omega) B hun]
      have hleft : nI left + (-1 : Int32) = nI (left - 1) := by
        obtain ⟨l, rfl⟩ : ∃ l, left = l + 1 := ⟨left - 1, by omega⟩
        exact pk_m1 l
      rw [if_neg (by rw [i_le0 (by omega)]; omega), oI_some, if_neg (by rw [i_m1 (by omega)]; exact id), hold, hleft]
      by_cases hu0 : u ≤ r0
      · rw [if_pos (by rw [i_le (by omega) (by omega)]; exact hu0), bind_some]
        obtain ⟨v1, v2, qs', q', a1, a2, a3, g1, g2, g3, g4, g5⟩ := ih r0 (left - 1) q qs C_queued C_found C_queue (by omega) (by omega) (by omega) (by omega) hq
        refine ⟨v1, v2, qs', q', a1, a2, a3, g1, g2, g3, g4, fun A hA2 => ?_⟩
        rw [g5 A hA2, m_cu_some hlu, if_neg (fun z => by omega), Nat.add_zero]
      · rw [if_neg (by rw [i_le (by omega) (by omega)]; exact hu0), p_sortOf hR hA (by omega), bind_some]
        obtain ⟨s1, s2', ks, s3⟩ := hR.2.2.2.2.2.2.2.2.2 r0 (Or.inl (by omega))
        obtain ⟨qs1, q1, b1, b2, b3, e1, e2, e3, e4, e5, e6⟩ := p_addTrees (n := n) (m := 1) hn hm ha s1 s3 (by omega) hq
        have e1' : f_Chart_addTrees n S_size S_ranks C_queued C_found C_queue (nI (rs r0)) (1 : Int32) = some (b1, b2, b3) := e1
        rw [e1', bind_some, bind_some]
        obtain ⟨v1, v2, qs', q', a1, a2, a3, g1, g2, g3, g4, g5⟩ := ih r0 (left - 1) q1 qs1 b1 b2 b3 (by omega) (by omega) (by omega) (by omega) e2
        refine ⟨v1, v2, qs', q', a1, a2, a3, g1, g2, by omega, fun t ht => by rw [g4 t (by omega), e4 t ht], fun A hA2 => ?_⟩
        have hgr : grs rk rs r0 = ks := by unfold grs; rw [s3]; rfl
        rw [g5 A hA2, e6, m_cu_some hlu]
        by_cases z : A = ks
        · rw [if_pos z, if_pos ⟨by omega, by rw [hgr, z]⟩, s2_addl, z]
          congr 1
          omega
        · rw [if_neg z, if_neg (fun w => z (by rw [← hgr]; exact w.2.symm)), Nat.add_zero]
end WR
