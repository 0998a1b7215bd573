/-! The class's tree: whether a rule may be a stretch, and where a symbol of it ends -/
section FT
variable {n sz so : Nat} {ty rk : Nat → Option Nat} {cl us : Nat} {op : Bool} {rs fi al : Nat → Nat} {S_size S_sorts : Int32} {S_types S_ranks S_typeRanks : Nat → Int32} {R_closed R_used R_isOpen : Int32} {R_sorts R_all R_firsts R_newestWraps R_olderWraps : Nat → Int32} {ln : Nat} {rw_ : Nat → Nat} {W_length : Int32} {W_row : Nat → Int32} {c : Nat → Nat → Nat → Nat} {st sv : Nat → Int64}
theorem c_st_bb (hm : m_S sz so ty rk) (h59 : ln ≤ 59) (hst : c_done c so ln 0 st sv) {s e m : Nat} (he : e ≤ ln) : bb (c_st (gvt ty rk) rw_ ln st s e) m = true ↔ 0 < g_sp rw_ (gvt ty rk) c s m e := by
  unfold c_st g_sp
  cases hg : gvt ty rk s with
  | none =>
    show bb (if 0 < e ∧ e ≤ ln ∧ rw_ (e - 1) = s then bI (e - 1) else 0) m = true ↔ 0 < (if e = m + 1 ∧ rw_ m = s then 1 else 0)
    by_cases z : e = m + 1 ∧ rw_ m = s
    · obtain ⟨z1, z2⟩ := z
      subst z1
      rw [if_pos ⟨by omega, he, z2⟩, if_pos ⟨rfl, z2⟩, bb_bI (by omega)]
      simp
    · rw [if_neg z]
      constructor
      · intro h
        by_cases y : 0 < e ∧ e ≤ ln ∧ rw_ (e - 1) = s
        · rw [if_pos y, bb_bI (by omega)] at h
          have : m = e - 1 := by simpa using h
          exact absurd ⟨by omega, by rw [this]; exact y.2.2⟩ z
        · rw [if_neg y, bb_0] at h; cases h
      · intro h; omega
  | some k =>
    show bb (st (k * 60 + e)) m = true ↔ 0 < (if m < e then c k m e else 0)
    obtain ⟨d1, d2⟩ := hst k (gvt_lt hm hg) e he
    rw [(bv_1 (k := m) d1).2, d2 m]
    by_cases z : m < e
    · rw [if_pos ⟨Nat.zero_le _, z⟩, if_pos z]; exact Iff.rfl
    · rw [if_neg (fun y => z y.2), if_neg z]; omega
theorem p_TstartsL (hm : m_S sz so ty rk) (ha : a_S sz so ty rk S_size S_sorts S_types S_ranks S_typeRanks) (hW : m_W sz ln rw_) (hw : a_W ln rw_ W_length W_row) (hst : c_done c so ln 0 st sv) {s : Nat} (hs : s < sz) (E : Int64) :
    ∀ (k e : Nat) (acc : Int64), 1 ≤ e → e ≤ ln + 1 → ln + 1 - e < k → ∃ w acc', f_Tree_startsOf_L6 n (nI s) E S_size S_typeRanks W_length W_row (nI ln) st k (nI e) acc = some (w, acc') ∧ ∀ m, bb acc' m = true ↔ bb acc m = true ∨ ∃ e', e ≤ e' ∧ e' ≤ ln ∧ bb E e' = true ∧ 0 < g_sp rw_ (gvt ty rk) c s m e' := by
  have h59 := hW.1
  intro k
  induction k with
  | zero => intro e acc _ _ h; exact absurd h (Nat.not_lt_zero _)
  | succ k ih =>
    intro e acc h1 h2 h3
    rw [f_Tree_startsOf_L6]
    unfold f_Row_length
    rw [bind_some]
    by_cases h : ln < e
    · rw [if_pos (by rw [i_lt (by omega) (by omega)]; exact h)]
      refine ⟨_, _, rfl, fun m => ⟨Or.inl, fun z => z.elim id (fun ⟨e', y1, y2, _, _⟩ => by omega)⟩⟩
    · rw [if_neg (by rw [i_lt (by omega) (by omega)]; exact h), p_hasBit (by omega), bind_some, nI_1]
      by_cases hb : bb E e = true
      · rw [if_pos hb, if_neg (show ¬ (1 : Int32) = 0 by decide), p_startsOf hm ha hW hw hs (by omega), bind_some]
        obtain ⟨w, acc', f1, f2⟩ := ih (e + 1) (acc ||| c_st (gvt ty rk) rw_ ln st s e) (by omega) (by omega) (by omega)
        refine ⟨w, acc', f1, fun m => ?_⟩
        rw [f2 m, bb_or, Bool.or_eq_true, c_st_bb hm h59 hst (by omega)]
        constructor
        · rintro ((y | y) | ⟨e', y1, y2, y3, y4⟩)
          · exact Or.inl y
          · exact Or.inr ⟨e, Nat.le_refl _, by omega, hb, y⟩
          · exact Or.inr ⟨e', by omega, y2, y3, y4⟩
        · rintro (y | ⟨e', y1, y2, y3, y4⟩)
          · exact Or.inl (Or.inl y)
          · by_cases z : e' = e
            · rw [z] at y4; exact Or.inl (Or.inr y4)
            · exact Or.inr ⟨e', by omega, y2, y3, y4⟩
      · rw [if_neg hb, if_pos rfl]
        obtain ⟨w, acc', f1, f2⟩ := ih (e + 1) acc (by omega) (by omega) (by omega)
        refine ⟨w, acc', f1, fun m => ?_⟩
        rw [f2 m]
        constructor
        · rintro (y | ⟨e', y1, y2, y3, y4⟩)
          · exact Or.inl y
          · exact Or.inr ⟨e', by omega, y2, y3, y4⟩
        · rintro (y | ⟨e', y1, y2, y3, y4⟩)
          · exact Or.inl y
          · by_cases z : e' = e
            · rw [z] at y3; exact absurd y3 hb
            · exact Or.inr ⟨e', by omega, y2, y3, y4⟩
theorem p_TstartsOf (hn : 40000 ≤ n) (hm : m_S sz so ty rk) (ha : a_S sz so ty rk S_size S_sorts S_types S_ranks S_typeRanks) (hW : m_W sz ln rw_) (hw : a_W ln rw_ W_length W_row) (hst : c_done c so ln 0 st sv) {s : Nat} (hs : s < sz) (E : Int64) :
    ∃ w, f_Tree_startsOf n S_size S_typeRanks W_length W_row (nI ln) st (nI s) E = some w ∧ ∀ m, bb w m = true ↔ ∃ e, 1 ≤ e ∧ e ≤ ln ∧ bb E e = true ∧ 0 < g_sp rw_ (gvt ty rk) c s m e := by
  have h59 := hW.1
  obtain ⟨w, acc, f1, f2⟩ := p_TstartsL (n := n) hm ha hW hw hst hs E n 1 0 (Nat.le_refl _) (by omega) (by omega)
  have f1' : f_Tree_startsOf_L6 n (nI s) E S_size S_typeRanks W_length W_row (nI ln) st n 1 0 = some (w, acc) := f1
  refine ⟨acc, ?_, fun m => ?_⟩
  · unfold f_Tree_startsOf
    rw [f1', bind_some]
  · rw [f2 m, bb_0]
    exact ⟨fun z => z.elim (fun y => by cases y) id, Or.inr⟩
/-- what fits leaves in rests -/
def c_re (ty rk : Nat → Option Nat) (fi al rw_ : Nat → Nat) (c : Nat → Nat → Nat → Nat) (r b p : Nat) (w : Int64) : Prop := ∀ m, bb w m = true ↔ g_sf rw_ (gvt ty rk) (gra fi al) c r (grl fi r - p) p m b
theorem p_fitsL (hn : 40000 ≤ n) (hm : m_S sz so ty rk) (ha : a_S sz so ty rk S_size S_sorts S_types S_ranks S_typeRanks) (hR : m_R sz ty rk cl us op rs fi al) (hA : a_R ty rk cl us op rs fi al R_closed R_used R_isOpen R_sorts R_all R_firsts R_newestWraps R_olderWraps) (hW : m_W sz ln rw_) (hw : a_W ln rw_ W_length W_row) (hst : c_done c so ln 0 st sv) {r b : Nat} (hr : r < cl) (hb : b ≤ ln) :
    ∀ (k p : Nat) (rests : Nat → Int64), p ≤ grl fi r → p < k → (∀ q, p ≤ q → q ≤ grl fi r → c_re ty rk fi al rw_ c r b q (rests q)) → ∃ w rests', f_Tree_fits_L55 n (nI (fi r)) S_size S_typeRanks R_used R_all W_length W_row (nI ln) st k (nI p - 1) rests = some (w, rests') ∧ ∀ q, q ≤ grl fi r → c_re ty rk fi al rw_ c r b q (rests' q) := by
  have h59 := hW.1
  have h1 := m_fi_us hR hr
  have hus := hR.2.1
  have h299 := (hR.2.2.2.1 r hr).2
  have hgl : grl fi r = fi (r + 1) - fi r := rfl
  intro k
  induction k with
  | zero => intro p rests _ h; exact absurd h (Nat.not_lt_zero _)
  | succ k ih =>
    intro p rests h2 h3 h4
    rw [f_Tree_fits_L55]
    by_cases h : p = 0
    · subst h
      rw [if_pos (by decide)]
      exact ⟨_, _, rfl, fun q hq => h4 q (Nat.zero_le _) hq⟩
    · obtain ⟨s, rfl⟩ : ∃ s, p = s + 1 := ⟨p - 1, by omega⟩
      have hs : al (fi r + s) < sz := hR.2.2.2.2.2.2.2.2.1 (fi r + s) (by omega)
      rw [i_back (by omega), Nat.add_sub_cancel, if_neg (nI_pos (by omega)), i_add, p_symAt hA hus (by omega), bind_some, nI_1, x_gI (by omega) (by decide), nI_clamp (by omega)]
      obtain ⟨w, f1, f2⟩ := p_TstartsOf (n := n) hn hm ha hW hw hst hs (rests (s + 1))
      rw [f1, bind_some, x_gI (by omega) (by decide), nI_clamp (by omega)]
      have e2 : nI s + (-1 : Int32) = nI s - (1 : Int32) := (Int32.sub_eq_add_neg _ _).symm
      rw [e2]
      refine ih s (vp_updL rests s w) (by omega) (by omega) (fun q hq hq2 => ?_)
      by_cases z : q = s
      · subst z
        rw [pk_uLs]
        intro m
        rw [f2 m]
        have hd : grl fi r - q = (grl fi r - (q + 1)) + 1 := by omega
        rw [hd]
        show _ ↔ ∃ e, m < e ∧ e ≤ b ∧ 0 < g_sp rw_ (gvt ty rk) c (gra fi al r q) m e ∧ g_sf rw_ (gvt ty rk) (gra fi al) c r (grl fi r - (q + 1)) (q + 1) e b
        constructor
        · rintro ⟨e, y1, y2, y3, y4⟩
          have y5 := (h4 (q + 1) (Nat.le_refl _) (by omega) e).mp y3
          refine ⟨e, ?_, ?_, y4, y5⟩
          · rcases Nat.lt_or_ge m e with v | v
            · exact v
            · rw [g_sp_0 v] at y4; omega
          · have := g_sf_len y5
            omega
        · rintro ⟨e, y1, y2, y3, y4⟩
          exact ⟨e, by omega, by omega, (h4 (q + 1) (Nat.le_refl _) (by omega) e).mpr y4, y3⟩
      · rw [pk_uLn z]
        exact h4 q (by omega) hq2
/-- whether a rule may be a stretch -/
theorem p_fits (hn : 40000 ≤ n) (hm : m_S sz so ty rk) (ha : a_S sz so ty rk S_size S_sorts S_types S_ranks S_typeRanks) (hR : m_R sz ty rk cl us op rs fi al) (hA : a_R ty rk cl us op rs fi al R_closed R_used R_isOpen R_sorts R_all R_firsts R_newestWraps R_olderWraps) (hW : m_W sz ln rw_) (hw : a_W ln rw_ W_length W_row) (hst : c_done c so ln 0 st sv) {r a b : Nat} (hr : r < cl) (hab : a < b) (hb : b ≤ ln) (rests : Nat → Int64) :
    ∃ v rests', f_Tree_fits n S_size S_typeRanks R_closed R_used R_all R_firsts W_length W_row (nI ln) st rests (nI r) (nI a) (nI b) = some (v, rests') ∧ (v = 0 ↔ ¬ g_sf rw_ (gvt ty rk) (gra fi al) c r (grl fi r) 0 a b) ∧ (v ≠ 0 → ∀ q, q ≤ grl fi r → c_re ty rk fi al rw_ c r b q (rests' q)) := by
  have h59 := hW.1
  have hcl := hR.1
  have h1 := m_fi_us hR hr
  have hus := hR.2.1
  have h299 := (hR.2.2.2.1 r hr).2
  have hgl : grl fi r = fi (r + 1) - fi r := rfl
  unfold f_Tree_fits
  rw [p_lengthOf hR hA hr, bind_some, i_sub (by omega)]
  by_cases hl : b - a < grl fi r
  · rw [if_pos (by rw [i_lt (by omega) (by omega)]; exact hl)]
    refine ⟨_, _, rfl, ⟨fun _ z => ?_, fun _ => rfl⟩, fun z => absurd rfl z⟩
    have := g_sf_len z
    omega
  · rw [if_neg (by rw [i_lt (by omega) (by omega)]; exact hl), if_pos (by rw [show (299 : Int32) = nI 299 from rfl, i_le (by decide) (by omega)]; omega), p_firstOf hR hA (by omega), bind_some, p_bit, bind_some, x_gI (by omega) (by decide), nI_clamp (by omega)]
    obtain ⟨w, rests', f1, f2⟩ := p_fitsL (n := n) hn hm ha hR hA hW hw hst hr hb n (grl fi r) (vp_updL rests (grl fi r) (bI b)) (Nat.le_refl _) (by omega) (fun q hq1 hq2 => by
      have e : q = grl fi r := by omega
      subst e
      rw [pk_uLs]
      intro m
      rw [bb_bI (by omega), Nat.sub_self]
      show _ ↔ m = b
      simp)
    rw [f1, bind_some, x_gin (show vp_in 0 300 from vp_in_nI (n := 0) (N := 300) (by decide) (by decide))]
    have f20 := f2 0 (Nat.zero_le _) a
    rw [Nat.sub_zero] at f20
    show ∃ v rests'_1, ((f_Top_hasBit n (rests' 0) (nI a)).bind fun x9 => x_z x9 (some (x9, rests'))) = _ ∧ _
    rw [p_hasBit (by omega), bind_some]
    by_cases z : bb (rests' 0) a = true
    · rw [if_pos z]
      refine ⟨1, rests', rfl, ⟨fun y => absurd y (by decide), fun y => absurd (f20.mp z) y⟩, fun _ => f2⟩
    · rw [if_neg z]
      refine ⟨0, rests', rfl, ⟨fun _ y => z (f20.mpr y), fun _ => rfl⟩, fun y => absurd rfl y⟩
theorem p_endL (hm : m_S sz so ty rk) (ha : a_S sz so ty rk S_size S_sorts S_types S_ranks S_typeRanks) (hW : m_W sz ln rw_) (hw : a_W ln rw_ W_length W_row) (hst : c_done c so ln 0 st sv) {s m e0 : Nat} (hs : s < sz) (E : Int64) (he0 : e0 ≤ ln) (hE : bb E e0 = true) (hsp : 0 < g_sp rw_ (gvt ty rk) c s m e0) (hme : m < e0) (hmin : ∀ e, m < e → e < e0 → ¬ (bb E e = true ∧ 0 < g_sp rw_ (gvt ty rk) c s m e)) :
    ∀ (k e : Nat), m < e → e ≤ e0 → e0 - e < k → f_Tree_endAmong_L6 n E (nI s) (nI m) S_size S_typeRanks W_length W_row (nI ln) st k (nI e) = some (nI e0) := by
  have h59 := hW.1
  intro k
  induction k with
  | zero => intro e _ _ h; exact absurd h (Nat.not_lt_zero _)
  | succ k ih =>
    intro e h1 h2 h3
    rw [f_Tree_endAmong_L6]
    unfold f_Row_length
    rw [bind_some]
    by_cases h : ln ≤ e
    · rw [if_pos (by rw [i_le (by omega) (by omega)]; exact h), bind_some]
      rw [show e0 = ln by omega]
    · rw [if_neg (by rw [i_le (by omega) (by omega)]; exact h), p_hasBit (by omega), bind_some, nI_1]
      by_cases hz : e = e0
      · subst hz
        rw [if_pos hE, if_neg (show ¬ (1 : Int32) = 0 by decide), p_startsOf hm ha hW hw hs (by omega), bind_some, p_hasBit (by omega), bind_some, if_pos ((c_st_bb hm h59 hst he0).mpr hsp), if_neg (show ¬ (1 : Int32) = 0 by decide)]
      · have hn := hmin e h1 (by omega)
        by_cases hb : bb E e = true
        · rw [if_pos hb, if_neg (show ¬ (1 : Int32) = 0 by decide), p_startsOf hm ha hW hw hs (by omega), bind_some, p_hasBit (by omega), bind_some, if_neg (fun y => hn ⟨hb, (c_st_bb hm h59 hst (by omega)).mp y⟩), if_pos rfl]
          exact ih (e + 1) (by omega) (by omega) (by omega)
        · rw [if_neg hb, if_pos rfl]
          exact ih (e + 1) (by omega) (by omega) (by omega)
theorem p_endAmong (hn : 40000 ≤ n) (hm : m_S sz so ty rk) (ha : a_S sz so ty rk S_size S_sorts S_types S_ranks S_typeRanks) (hW : m_W sz ln rw_) (hw : a_W ln rw_ W_length W_row) (hst : c_done c so ln 0 st sv) {s m e0 : Nat} (hs : s < sz) (E : Int64) (he0 : e0 ≤ ln) (hE : bb E e0 = true) (hsp : 0 < g_sp rw_ (gvt ty rk) c s m e0) (hme : m < e0) (hmin : ∀ e, m < e → e < e0 → ¬ (bb E e = true ∧ 0 < g_sp rw_ (gvt ty rk) c s m e)) :
    f_Tree_endAmong n S_size S_typeRanks W_length W_row (nI ln) st E (nI s) (nI m) = some (nI e0) := by
  have h59 := hW.1
  unfold f_Tree_endAmong
  rw [nI_1]
  exact p_endL hm ha hW hw hst hs E he0 hE hsp hme hmin n (m + 1) (by omega) (by omega) (by omega)
end FT
