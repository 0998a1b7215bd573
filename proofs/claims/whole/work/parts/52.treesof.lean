/-! treesOf of the class: the starts, from the last one back -/
def c_done (C : Nat → Nat → Nat → Nat) (so to m : Nat) (st sv : Nat → Int64) : Prop := ∀ A, A < so → ∀ j, j ≤ to → (∀ k, bb (sv (A * 60 + j)) k = true → bb (st (A * 60 + j)) k = true) ∧ ∀ k, bv (st (A * 60 + j)) (sv (A * 60 + j)) k = if m ≤ k ∧ k < j then C A k j else 0
theorem c_done_chart {C : Nat → Nat → Nat → Nat} {so to s : Nat} {st sv : Nat → Int64} (h : c_done C so to (s + 1) st sv) : c_chart C so to s (s + 1) st sv := by
  intro A hA j hj
  refine ⟨(h A hA j hj).1, fun k => ?_⟩
  rw [(h A hA j hj).2 k]
  by_cases z : s + 1 ≤ k ∧ k < j
  · rw [if_pos z, if_pos (Or.inl ⟨by omega, z.2⟩)]
  · rw [if_neg z, if_neg (by omega)]
theorem c_chart_done {C : Nat → Nat → Nat → Nat} {so to s : Nat} {st sv : Nat → Int64} (h : c_chart C so to s (to + 1) st sv) : c_done C so to s st sv := by
  intro A hA j hj
  refine ⟨(h A hA j hj).1, fun k => ?_⟩
  rw [(h A hA j hj).2 k]
  by_cases z : s ≤ k ∧ k < j
  · rw [if_pos z, if_pos (by omega)]
  · rw [if_neg z, if_neg (by omega)]
theorem bb00 (k : Nat) : bb (0 : Int64) k = true → bb (0 : Int64) k = true := id
theorem i_back {m : Nat} (h : 1 ≤ m) : nI m - (1 : Int32) = nI (m - 1) := pk_sub (show 1 ≤ m from h)
theorem i_backlt {m fr : Nat} (hm : m < 2 ^ 31) (hf : fr < 2 ^ 31) : (nI m - (1 : Int32) < nI fr) = (m ≤ fr) := by
  by_cases z : m = 0
  · subst z
    refine propext ⟨fun _ => Nat.zero_le _, fun _ => ?_⟩
    have e : nI 0 - (1 : Int32) = -1 := rfl
    rw [e, Int32.lt_iff_toInt_lt, nI_toInt hf]
    have : (-1 : Int32).toInt = -1 := by decide
    rw [this]
    omega
  · rw [i_back (by omega), i_lt hf (by omega)]
    exact propext (by omega)
section TO
variable {n sz so : Nat} {ty rk : Nat → Option Nat} {cl us : Nat} {op : Bool} {rs fi al : Nat → Nat} {S_size S_sorts : Int32} {S_types S_ranks S_typeRanks : Nat → Int32} {R_closed R_used R_isOpen : Int32} {R_sorts R_all R_firsts R_newestWraps R_olderWraps : Nat → Int32} {u : Nat} {ln : Nat} {rw_ : Nat → Nat} {W_length : Int32} {W_row : Nat → Int32}
theorem p_forgetStart (hn : 40000 ≤ n) (hm : m_S sz so ty rk) (ha : a_S sz so ty rk S_size S_sorts S_types S_ranks S_typeRanks) (hR : m_R sz ty rk cl us op rs fi al) (hA : a_R ty rk cl us op rs fi al R_closed R_used R_isOpen R_sorts R_all R_firsts R_newestWraps R_olderWraps) (hu : u ≤ cl) (en ev reach sevR : Nat → Int64) :
    ∃ en' ev' reach' sevR', f_Chart_forgetStart n S_sorts R_closed R_used R_firsts (nI u) en ev reach sevR = some (en', ev', reach', sevR') ∧ (∀ A, A < so → en' A = 0 ∧ ev' A = 0) ∧ (∀ p, p < fi u → reach' p = 0 ∧ sevR' p = 0) := by
  have hso := hm.2.1
  have hus := hR.2.1
  have hfu : fi u ≤ us := by
    have q2 := m_fi_mono (fun z hz => (hR.2.2.2.1 z hz).1) hu (Nat.le_refl cl)
    have q3 := hR.2.2.2.2.1
    omega
  obtain ⟨w1, en', ev', a1, a2, -⟩ := p_forgetL2 (n := n) hso n 0 en ev (Nat.zero_le _) (by omega)
  obtain ⟨w2, re', se', b1, b2, -⟩ := p_forgetL47 (n := n) (show fi u ≤ 30000 by omega) n 0 reach sevR (Nat.zero_le _) (by omega)
  refine ⟨en', ev', re', se', ?_, fun A hA2 => a2 A (Nat.zero_le _) hA2, fun p hp => b2 p (Nat.zero_le _) hp⟩
  unfold f_Chart_forgetStart
  rw [ha.2.1, show (0 : Int32) = nI 0 from rfl, a1, bind_some, p_firstOf hR hA hu, bind_some, b1, bind_some]
theorem p_treesL44 (hn : 40000 ≤ n) (hm : m_S sz so ty rk) (ha : a_S sz so ty rk S_size S_sorts S_types S_ranks S_typeRanks) (hR : m_R sz ty rk cl us op rs fi al) (hA : a_R ty rk cl us op rs fi al R_closed R_used R_isOpen R_sorts R_all R_firsts R_newestWraps R_olderWraps) (hW : m_W sz ln rw_) (hw : a_W ln rw_ W_length W_row) (hu : u ≤ cl)
    {fr to : Nat} (hto : to ≤ ln) :
    ∀ (k m : Nat) (C_queued : Int32) (st sv en ev reach sevR : Nat → Int64) (C_found C_queue : Nat → Int32), fr ≤ m → m ≤ to → m - fr < k → c_done (m_C ty rk rs fi al rw_ u) so to m st sv →
    ∃ w C_queued' st' sv' en' ev' reach' sevR' C_found' C_queue', f_Chart_treesOf_L44 n (nI fr) (nI to) S_size S_sorts S_types S_ranks S_typeRanks R_closed R_used R_sorts R_all R_firsts R_newestWraps R_olderWraps W_length W_row (nI u) k (nI m - (1 : Int32)) C_queued st sv en ev reach sevR C_found C_queue = some (w, C_queued', st', sv', en', ev', reach', sevR', C_found', C_queue') ∧ c_done (m_C ty rk rs fi al rw_ u) so to fr st' sv' := by
  have h59 := hW.1
  have hso := hm.2.1
  intro k
  induction k with
  | zero => intro m C_queued st sv en ev reach sevR C_found C_queue _ _ h; exact absurd h (Nat.not_lt_zero _)
  | succ k ih =>
    intro m C_queued st sv en ev reach sevR C_found C_queue hfr hmt hk hd
    rw [f_Chart_treesOf_L44]
    by_cases h : m ≤ fr
    · have e1 : m = fr := by omega
      subst e1
      rw [if_pos (by rw [i_backlt (by omega) (by omega)]; exact h)]
      exact ⟨_, _, _, _, _, _, _, _, _, _, rfl, hd⟩
    · rw [if_neg (by rw [i_backlt (by omega) (by omega)]; exact h)]
      obtain ⟨en1, ev1, re1, se1, f1, f2, f3⟩ := p_forgetStart (n := n) hn hm ha hR hA hu en ev reach sevR
      rw [f1, bind_some]
      obtain ⟨s, rfl⟩ : ∃ s, m = s + 1 := ⟨m - 1, by omega⟩
      rw [i_back (by omega), Nat.add_sub_cancel, nI_1]
      obtain ⟨w, q1, st1, sv1, en2, ev2, re2, se2, fo2, qu2, g1, g2⟩ := p_treesL60 (n := n) hn hm ha hR hA hW hw hu (s := s) hto n (s + 1) C_queued st sv en1 ev1 re1 se1 C_found C_queue (by omega) (by omega) (by omega) (c_done_chart hd)
        (fun A hA2 => by
          rw [(f2 A hA2).1, (f2 A hA2).2]
          refine ⟨bb00, fun k hk => (by rw [bb_0] at hk; cases hk), fun k => ?_⟩
          rw [bv_zero bb00, if_neg (by omega)])
        (fun z hz h2 h3 q q1 q2 => by
          have hfl : fi z + q < fi u := by
            have y1 := (hR.2.2.2.1 z (by omega)).1
            have y2 := m_fi_mono (fun z hz => (hR.2.2.2.1 z hz).1) (show z + 1 ≤ u from hz) hu
            have y3 : grl fi z = fi (z + 1) - fi z := rfl
            omega
          rw [(f3 _ hfl).1, (f3 _ hfl).2]
          refine ⟨bb00, fun k hk => (by rw [bb_0] at hk; cases hk), fun k => ?_⟩
          rw [bv_zero bb00]
          by_cases y : k < s + 1
          · rw [if_pos y, g_wy_0 (by omega)]; rfl
          · rw [if_neg y])
      rw [g1, bind_some]
      have e2 : nI s + (-1 : Int32) = nI s - (1 : Int32) := (Int32.sub_eq_add_neg _ _).symm
      rw [e2]
      exact ih s q1 st1 sv1 en2 ev2 re2 se2 fo2 qu2 (by omega) (by omega) (by omega) (c_chart_done g2)
theorem p_forgetStretches (hn : 40000 ≤ n) (hso : so ≤ 100) (st sv : Nat → Int64) : ∃ st' sv', f_Chart_forgetStretches n (nI so) st sv = some (st', sv') ∧ ∀ p, p < so * 60 → st' p = 0 ∧ sv' p = 0 := by
  obtain ⟨w, st', sv', a1, a2, -⟩ := p_forgetL13 (n := n) (show so * 60 ≤ 6000 by omega) n 0 st sv (Nat.zero_le _) (by omega)
  refine ⟨st', sv', ?_, fun p hp => a2 p (Nat.zero_le _) hp⟩
  unfold f_Chart_forgetStretches f_Symbols_sorts
  rw [bind_some, i_lit 60, i_mul, show (0 : Int32) = nI 0 from rfl, a1, bind_some]
theorem bv_1 {P Q : Int64} {k : Nat} (h : ∀ k, bb Q k = true → bb P k = true) : (bb Q k = true ↔ bv P Q k = 2) ∧ (bb P k = true ↔ 1 ≤ bv P Q k) := by
  unfold bv
  by_cases q : bb Q k = true
  · rw [if_pos q]
    exact ⟨⟨fun _ => rfl, fun _ => q⟩, ⟨fun _ => by omega, fun _ => h k q⟩⟩
  · rw [if_neg q]
    by_cases p : bb P k = true
    · rw [if_pos p]
      exact ⟨⟨fun z => absurd z q, fun z => by omega⟩, ⟨fun _ => by omega, fun _ => p⟩⟩
    · rw [if_neg p]
      exact ⟨⟨fun z => absurd z q, fun z => by omega⟩, ⟨fun z => absurd z p, fun z => by omega⟩⟩
/-- the trees of a sort for a stretch, as the class counts them, and the chart that it leaves -/
theorem p_treesOf (hn : 40000 ≤ n) (hm : m_S sz so ty rk) (ha : a_S sz so ty rk S_size S_sorts S_types S_ranks S_typeRanks) (hR : m_R sz ty rk cl us op rs fi al) (hA : a_R ty rk cl us op rs fi al R_closed R_used R_isOpen R_sorts R_all R_firsts R_newestWraps R_olderWraps) (hW : m_W sz ln rw_) (hw : a_W ln rw_ W_length W_row) (hu : u ≤ cl)
    {fr to : Nat} (hft : fr < to) (hto : to ≤ ln) {j A : Nat} (hj : j < sz) (hk : rk j = some A) (C_queued C_usable : Int32) (st sv en ev reach sevR : Nat → Int64) (C_found C_queue : Nat → Int32) :
    ∃ C_queued' st' sv' en' ev' reach' sevR' C_found' C_queue', f_Chart_treesOf n S_size S_sorts S_types S_ranks S_typeRanks R_closed R_used R_sorts R_all R_firsts R_newestWraps R_olderWraps W_length W_row C_queued C_usable st sv en ev reach sevR C_found C_queue (nI j) (nI u) (nI fr) (nI to) = some (nI (m_C ty rk rs fi al rw_ u A fr to), C_queued', nI u, st', sv', en', ev', reach', sevR', C_found', C_queue') ∧ c_done (m_C ty rk rs fi al rw_ u) so to fr st' sv' := by
  have h59 := hW.1
  have hso := hm.2.1
  have hAs := (hm.2.2.2.1 j A hk).2.1
  obtain ⟨st1, sv1, a1, a2⟩ := p_forgetStretches (n := n) hn hso st sv
  obtain ⟨w, q2, st2, sv2, en2, ev2, re2, se2, fo2, qu2, g1, g2⟩ := p_treesL44 (n := n) hn hm ha hR hA hW hw hu (fr := fr) hto n to C_queued st1 sv1 en ev reach sevR C_found C_queue (by omega) (Nat.le_refl _) (by omega) (fun A hA2 j hj => by
    obtain ⟨z1, z2⟩ := a2 (A * 60 + j) (by omega)
    rw [z1, z2]
    refine ⟨bb00, fun k => ?_⟩
    rw [bv_zero bb00, if_neg (by omega)])
  refine ⟨q2, st2, sv2, en2, ev2, re2, se2, fo2, qu2, ?_, g2⟩
  unfold f_Chart_treesOf
  rw [p_rankOf hm ha hj, bind_some, hk, oI_some, p_placeOf (by omega) (by omega), bind_some, if_neg (by rw [i_m1 (by omega)]; exact id), if_pos (by rw [i_lt (by omega) (by omega)]; exact hft), ha.2.1, a1, bind_some]
  have g1' := g1
  rw [ha.2.1] at g1'
  rw [g1', bind_some, x_gI (by omega) (by decide), x_gI (by omega) (by decide), nI_clamp (by omega)]
  show ((f_Top_hasBit n (sv2 (A * 60 + to)) (nI fr)).bind _) = _
  rw [p_hasBit (by omega), bind_some]
  obtain ⟨c1, c2⟩ := g2 A hAs to (Nat.le_refl _)
  have c3 := c2 fr
  rw [if_pos ⟨Nat.le_refl _, hft⟩] at c3
  obtain ⟨d1, d2⟩ := bv_1 (k := fr) c1
  rw [c3] at d1 d2
  have h2 : m_C ty rk rs fi al rw_ u A fr to ≤ 2 := m_C_2 hft
  have : m_C ty rk rs fi al rw_ u A fr to = 0 ∨ m_C ty rk rs fi al rw_ u A fr to = 1 ∨ m_C ty rk rs fi al rw_ u A fr to = 2 := by omega
  rcases this with z | z | z
  · have n1 : ¬ bb (sv2 (A * 60 + to)) fr = true := fun y => by have := d1.mp y; omega
    have n2 : ¬ bb (st2 (A * 60 + to)) fr = true := fun y => by have := d2.mp y; omega
    rw [if_neg n1, if_pos rfl]
    show ((f_Top_hasBit n (st2 (A * 60 + to)) (nI fr)).bind _) = _
    rw [p_hasBit (by omega), bind_some, if_neg n2, if_pos rfl, z]
    rfl
  · have n1 : ¬ bb (sv2 (A * 60 + to)) fr = true := fun y => by have := d1.mp y; omega
    have n2 : bb (st2 (A * 60 + to)) fr = true := d2.mpr (by omega)
    rw [if_neg n1, if_pos rfl]
    show ((f_Top_hasBit n (st2 (A * 60 + to)) (nI fr)).bind _) = _
    rw [p_hasBit (by omega), bind_some, if_pos n2, if_neg (show ¬ (1 : Int32) = 0 by decide), z]
    rfl
  · have n1 : bb (sv2 (A * 60 + to)) fr = true := d1.mpr z
    rw [if_pos n1, if_neg (show ¬ (1 : Int32) = 0 by decide), z]
    rfl
/-- no sort, or nothing between -/
theorem p_treesOf_none (hm : m_S sz so ty rk) (ha : a_S sz so ty rk S_size S_sorts S_types S_ranks S_typeRanks) {fr to : Nat} (hto : to ≤ 59) (hfr : fr ≤ 59) {j : Nat} (hj : j < sz) (hk : rk j = none ∨ to ≤ fr) (C_queued C_usable p2 : Int32) (st sv en ev reach sevR : Nat → Int64) (C_found C_queue : Nat → Int32) :
    f_Chart_treesOf n S_size S_sorts S_types S_ranks S_typeRanks R_closed R_used R_sorts R_all R_firsts R_newestWraps R_olderWraps W_length W_row C_queued C_usable st sv en ev reach sevR C_found C_queue (nI j) p2 (nI fr) (nI to) = some (0, C_queued, C_usable, st, sv, en, ev, reach, sevR, C_found, C_queue) := by
  have hso := hm.2.1
  unfold f_Chart_treesOf
  rw [p_rankOf hm ha hj, bind_some]
  cases h : rk j with
  | none => rw [oI_none, p_placeOf_m1, bind_some, if_pos rfl]
  | some A =>
    have hAs := (hm.2.2.2.1 j A h).2.1
    rw [oI_some, p_placeOf (by omega) (by omega), bind_some, if_neg (by rw [i_m1 (by omega)]; exact id), if_neg (by
      rw [i_lt (by omega) (by omega)]
      rcases hk with z | z
      · rw [h] at z; cases z
      · omega)]
end TO
