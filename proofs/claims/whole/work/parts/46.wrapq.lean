section WQ
variable {n sz so : Nat} {ty rk : Nat → Option Nat} {cl us : Nat} {op : Bool} {rs fi al : Nat → Nat} {S_size S_sorts : Int32} {S_types S_ranks S_typeRanks : Nat → Int32} {R_closed R_used R_isOpen : Int32} {R_sorts R_all R_firsts R_newestWraps R_olderWraps : Nat → Int32} {u : Nat}
/-- what the queue's first t trees have given -/
def c_wr (ty rk : Nat → Option Nat) (rs fi al : Nat → Nat) (u : Nat) (b : Nat → Nat) (qs : Nat → Nat) (t A : Nat) : Nat := s2 (b A + sm t (fun j => g_um (gvt ty rk) (grs rk rs) (grl fi) (gra fi al) u A (qs j)))
theorem p_wrapL2 (hn : 40000 ≤ n) (hm : m_S sz so ty rk) (ha : a_S sz so ty rk S_size S_sorts S_types S_ranks S_typeRanks) (hR : m_R sz ty rk cl us op rs fi al) (hA : a_R ty rk cl us op rs fi al R_closed R_used R_isOpen R_sorts R_all R_firsts R_newestWraps R_olderWraps) (hu : u ≤ cl) (b : Nat → Nat) :
    ∀ (k t q : Nat) (qs : Nat → Nat) (C_queued : Int32) (C_found C_queue : Nat → Int32), t ≤ q → 200 - t < k → c_q so qs q C_queued C_found C_queue → (∀ A, A < so → ct qs q A = c_wr ty rk rs fi al u b qs t A) →
    (∀ h : Nat → Nat, (∀ A, A < so → s2 (b A + sm so (fun B => g_um (gvt ty rk) (grs rk rs) (grl fi) (gra fi al) u A B * h B)) ≤ h A) → ∀ A, A < so → ct qs q A ≤ h A) →
    ∃ v qs' q' C_queued' C_found' C_queue', f_Chart_wrapTrees_L2 n S_size S_ranks R_closed R_sorts R_newestWraps R_olderWraps (nI u) k (nI t) C_queued C_found C_queue = some (v, C_queued', C_found', C_queue') ∧ c_q so qs' q' C_queued' C_found' C_queue' ∧ (∀ A, A < so → ct qs' q' A = c_wr ty rk rs fi al u b qs' q' A) ∧
      (∀ h : Nat → Nat, (∀ A, A < so → s2 (b A + sm so (fun B => g_um (gvt ty rk) (grs rk rs) (grl fi) (gra fi al) u A B * h B)) ≤ h A) → ∀ A, A < so → ct qs' q' A ≤ h A) := by
  have hcl := hR.1
  have hso := hm.2.1
  intro k
  induction k with
  | zero => intro t q qs C_queued C_found C_queue _ h; exact absurd h (Nat.not_lt_zero _)
  | succ k ih =>
    intro t q qs C_queued C_found C_queue ht hk hq hwr hls
    have hq200 := c_q_le hq hso
    rw [f_Chart_wrapTrees_L2]
    by_cases h1 : q ≤ t
    · have e : t = q := by omega
      subst e
      rw [if_pos (by rw [hq.1, i_le (by omega) (by omega)]; exact h1)]
      exact ⟨_, qs, t, _, _, _, rfl, hq, hwr, hls⟩
    · obtain ⟨hqt, hqs⟩ := hq.2.1 t (by omega)
      have hnew : f_Rules_newestWrap n R_newestWraps (nI (qs t)) = some (oI (m_lu ty rk fi al cl (qs t))) := by
        unfold f_Rules_newestWrap
        rw [p_isRank (by omega), bind_some, if_neg (show ¬ (1 : Int32) = 0 by decide), x_gI (by omega) (by decide), nI_clamp (by omega), hA.2.2.2.2.2.2.1 (qs t) (by omega)]
      rw [if_neg (by rw [hq.1, i_le (by omega) (by omega)]; exact h1), if_neg (by rw [i_lit, i_le (by omega) (by decide)]; omega), x_gI (by omega) (by decide), nI_clamp (by omega), hqt, hnew, bind_some]
      obtain ⟨v1, v2, qs1, q1, a1, a2, a3, g1, g2, g3, g4, g5⟩ := p_wrapL37 hn hm ha hR hA hu (qs t) n cl 1500 q qs C_queued C_found C_queue (Nat.le_refl cl) hcl (Nat.le_refl _) (by omega) hq
      have g1' : f_Chart_wrapTrees_L37 n S_size S_ranks R_closed R_sorts R_olderWraps (nI u) n (1500 : Int32) (oI (m_lu ty rk fi al cl (qs t))) C_queued C_found C_queue = some (v1, v2, a1, a2, a3) := g1
      rw [g1', bind_some, nI_1]
      have hpre : ∀ j, j < t + 1 → qs1 j = qs j := fun j hj => g4 j (by omega)
      have hwr1 : ∀ A, A < so → ct qs1 q1 A = c_wr ty rk rs fi al u b qs1 (t + 1) A := fun A hA2 => by
        rw [g5 A hA2, hwr A hA2]
        unfold c_wr
        rw [s2_addl, m_cu_um hu]
        show _ = s2 (b A + (sm t (fun j => g_um (gvt ty rk) (grs rk rs) (grl fi) (gra fi al) u A (qs1 j)) + g_um (gvt ty rk) (grs rk rs) (grl fi) (gra fi al) u A (qs1 t)))
        rw [hpre t (by omega), sm_congr (f := fun j => g_um (gvt ty rk) (grs rk rs) (grl fi) (gra fi al) u A (qs1 j)) (g := fun j => g_um (gvt ty rk) (grs rk rs) (grl fi) (gra fi al) u A (qs j)) (fun j hj => by rw [hpre j (by omega)]), Nat.add_assoc]
      refine ih (t + 1) q1 qs1 a1 a2 a3 (by omega) (by omega) g2 hwr1 (fun h hh A hA2 => ?_)
      rw [hwr1 A hA2]
      unfold c_wr
      refine Nat.le_trans (s2_mono (Nat.add_le_add_left ?_ _)) (hh A hA2)
      rw [ct_sum (so := so) (q := qs1) (m := t + 1) (fun j hj => (g2.2.1 j (by omega)).2) (fun B => g_um (gvt ty rk) (grs rk rs) (grl fi) (gra fi al) u A B)]
      refine sm_le (fun B hB => Nat.mul_le_mul_left _ ?_)
      have h2 : ct qs1 (t + 1) B ≤ ct qs q B := by
        have e1 : ct qs1 (t + 1) B = ct qs (t + 1) B := sm_congr (fun j hj => by rw [hpre j hj])
        rw [e1]
        have : ∀ m, t + 1 ≤ m → ct qs (t + 1) B ≤ ct qs m B := fun m => by
          induction m with
          | zero => intro w; omega
          | succ m ihm =>
            intro w
            by_cases z : t = m
            · rw [z]; exact Nat.le_refl _
            · exact Nat.le_trans (ihm (by omega)) (Nat.le_add_right _ _)
        exact this q (by omega)
      exact Nat.le_trans h2 (hls h hh B hB)
/-- the class's numbers for a stretch: enough, and least -/
theorem p_wrapTrees (hn : 40000 ≤ n) (hm : m_S sz so ty rk) (ha : a_S sz so ty rk S_size S_sorts S_types S_ranks S_typeRanks) (hR : m_R sz ty rk cl us op rs fi al) (hA : a_R ty rk cl us op rs fi al R_closed R_used R_isOpen R_sorts R_all R_firsts R_newestWraps R_olderWraps) (hu : u ≤ cl) (b : Nat → Nat)
    {q : Nat} {qs : Nat → Nat} {C_queued : Int32} {C_found C_queue : Nat → Int32} (hq : c_q so qs q C_queued C_found C_queue) (hb : ∀ A, A < so → ct qs q A = s2 (b A)) :
    ∃ qs' q' C_queued' C_found' C_queue', f_Chart_wrapTrees n S_size S_ranks R_closed R_sorts R_newestWraps R_olderWraps C_queued (nI u) C_found C_queue = some (C_queued', C_found', C_queue') ∧ c_q so qs' q' C_queued' C_found' C_queue' ∧
      (∀ A, A < so → ct qs' q' A = s2 (b A + sm so (fun B => g_um (gvt ty rk) (grs rk rs) (grl fi) (gra fi al) u A B * ct qs' q' B))) ∧
      (∀ h : Nat → Nat, (∀ A, A < so → s2 (b A + sm so (fun B => g_um (gvt ty rk) (grs rk rs) (grl fi) (gra fi al) u A B * h B)) ≤ h A) → ∀ A, A < so → ct qs' q' A ≤ h A) := by
  obtain ⟨v, qs', q', a1, a2, a3, g1, g2, g3, g4⟩ := p_wrapL2 hn hm ha hR hA hu b n 0 q qs C_queued C_found C_queue (Nat.zero_le _) (by omega) hq (fun A hA2 => by rw [hb A hA2]; unfold c_wr; rw [show sm 0 _ = 0 from rfl, Nat.add_zero]) (fun h hh A hA2 => by
    rw [hb A hA2]
    exact Nat.le_trans (s2_mono (Nat.le_add_right _ _)) (hh A hA2))
  refine ⟨qs', q', a1, a2, a3, ?_, g2, fun A hA2 => ?_, g4⟩
  · unfold f_Chart_wrapTrees
    rw [show (0 : Int32) = nI 0 from rfl, g1, bind_some]
  · have e := g3 A hA2
    unfold c_wr at e
    rw [ct_sum (so := so) (q := qs') (m := q') (fun j hj => (g2.2.1 j hj).2) (fun B => g_um (gvt ty rk) (grs rk rs) (grl fi) (gra fi al) u A B)] at e
    exact e
end WQ
