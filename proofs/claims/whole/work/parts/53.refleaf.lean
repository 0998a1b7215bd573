/-! The reference: its counts, its ways, one step of a rule -/
theorem q_nar {x : Nat} (h : x ≤ 2) : vp_nar .byte (nI x) = nI x := by
  have : x = 0 ∨ x = 1 ∨ x = 2 := by omega
  rcases this with z | z | z <;> subst z <;> decide +kernel
theorem q_i8 {x : Nat} (h : x ≤ 2) : (nI x).toInt8.toInt32 = nI x := by
  have : x = 0 ∨ x = 1 ∨ x = 2 := by omega
  rcases this with z | z | z <;> subst z <;> decide +kernel
theorem q_nar8 {x : Nat} (h : x ≤ 2) : vp_nar .byte ((nI x).toInt8.toInt32) = nI x := by rw [q_i8 h, q_nar h]
theorem q_capped {n x : Nat} (h : x < 2 ^ 31) : f_Ref_capped n (nI x) = some (nI (s2 x)) := by
  unfold f_Ref_capped s2
  by_cases q : x ≤ 2
  · rw [if_pos (by rw [i_lit, i_le (by decide) h]; exact q)]
    by_cases z : x < 2
    · rw [if_pos z]
    · rw [if_neg z]
      have : x = 2 := by omega
      subst this
      rfl
  · rw [if_neg (by rw [i_lit, i_le (by decide) h]; exact q), if_neg (by omega)]
    rfl
/-- where a count lies -/
def d_ix (A i j : Nat) : Nat := 3600 * A + 60 * i + j
theorem d_ixI (A i j : Nat) : (((3600 : Int32) * nI A) + ((60 : Int32) * nI i)) + nI j = nI (d_ix A i j) := by
  rw [show (3600 : Int32) = nI 3600 from rfl, show (60 : Int32) = nI 60 from rfl, i_mul, i_mul, i_add, i_add]
  rfl
theorem d_ix_lt {A i j : Nat} (hA : A < 100) (hi : i < 60) (hj : j < 60) : d_ix A i j < 360000 := by unfold d_ix; omega
theorem d_ix_inj {A i j B k l : Nat} (hi : i < 60) (hj : j < 60) (hk : k < 60) (hl : l < 60) (h : d_ix A i j = d_ix B k l) : A = B ∧ i = k ∧ j = l := by unfold d_ix at h; omega
/-- where a number of ways lies -/
def d_wx (fi : Nat → Nat) (r k m : Nat) : Nat := 60 * (fi r + r + k) + m
theorem d_wxI (fi : Nat → Nat) (r k m : Nat) : ((60 : Int32) * ((nI (fi r) + nI r) + nI k)) + nI m = nI (d_wx fi r k m) := by
  rw [show (60 : Int32) = nI 60 from rfl, i_add, i_add, i_mul, i_add]
  rfl
theorem s2_wy_le (a : Nat) : s2 a < 2 ^ 31 := by have := s2_le a; omega
section RL
variable {n sz so : Nat} {ty rk : Nat → Option Nat} {cl us : Nat} {op : Bool} {rs fi al : Nat → Nat} {D_symbols D_sorts : Int32} {D_types D_sortOf : Nat → Int32} {D_rules D_isOpen D_all : Int32} {D_makes D_starts D_told : Nat → Int32} {ln : Nat} {rw_ : Nat → Nat} {D_length : Int32} {D_row : Nat → Int32} {c : Nat → Nat → Nat → Nat}
theorem d_wx_lt (hR : m_R sz ty rk cl us op rs fi al) {r k m : Nat} (hr : r < cl) (hk : k ≤ grl fi r) (hm : m < 60) : d_wx fi r k m < 1890100 := by
  have h1 := m_fi_us hR hr
  have h2 := hR.1
  have h3 := hR.2.1
  have h4 : grl fi r = fi (r + 1) - fi r := rfl
  unfold d_wx
  omega
theorem d_wx_inj (hR : m_R sz ty rk cl us op rs fi al) {r k m r' k' m' : Nat} (hr : r < cl) (hr' : r' < cl) (hk : k ≤ grl fi r) (hk' : k' ≤ grl fi r') (hm : m < 60) (hm' : m' < 60) (h : d_wx fi r k m = d_wx fi r' k' m') : r = r' ∧ k = k' ∧ m = m' := by
  have h1 := m_fi_us hR hr
  have h2 := m_fi_us hR hr'
  have h4 : grl fi r = fi (r + 1) - fi r := rfl
  have h5 : grl fi r' = fi (r' + 1) - fi r' := rfl
  unfold d_wx at h
  rcases Nat.lt_trichotomy r r' with q | q | q
  · have y2 := m_fi_mono (fun z hz => (hR.2.2.2.1 z hz).1) (show r + 1 ≤ r' from q) (Nat.le_of_lt hr')
    omega
  · subst q
    omega
  · have y2 := m_fi_mono (fun z hz => (hR.2.2.2.1 z hz).1) (show r' + 1 ≤ r from q) (Nat.le_of_lt hr)
    omega
theorem q_lengthOf (hR : m_R sz ty rk cl us op rs fi al) (hD : d_R cl us op rs fi al D_rules D_isOpen D_all D_makes D_starts D_told) {r : Nat} (hr : r < cl) : f_Ref_lengthOf n D_starts (nI r) = some (nI (grl fi r)) := by
  have hcl := hR.1
  have h1 := m_fi_us hR hr
  unfold f_Ref_lengthOf
  rw [nI_1, x_gI (by omega) (by decide), x_gI (by omega) (by decide), nI_clamp (by omega), nI_clamp (by omega), hD.2.2.2.2.1 r (by omega), hD.2.2.2.2.1 (r + 1) hr, pk_sub (by omega)]
  rfl
theorem gvt_some {s A : Nat} (h : gvt ty rk s = some A) : ∃ t, ty s = some t ∧ rk t = some A := by
  unfold gvt at h
  cases ht : ty s with
  | none => rw [ht] at h; cases h
  | some t => rw [ht] at h; exact ⟨t, rfl, h⟩
theorem q_treesOf (hm : m_S sz so ty rk) (hd : d_S sz so ty rk D_symbols D_sorts D_types D_sortOf) {s A i j : Nat} (hs : s < sz) (hg : gvt ty rk s = some A) (hi : i < 60) (hj : j < 60) (many : Nat → Int32) :
    f_Ref_treesOf n D_types D_sortOf many (nI s) (nI i) (nI j) = some (many (d_ix A i j)) := by
  have hsz := hm.1
  have hso := hm.2.1
  obtain ⟨t, h1, h2⟩ := gvt_some hg
  have h3 := (hm.2.2.1 s hs t h1).1
  have h4 := (hm.2.2.2.1 t A h2).2.1
  have e1 : D_types s = nI t := by rw [hd.2.2.1 s hs, h1, oI_some]
  have e2 : D_sortOf t = nI A := by rw [hd.2.2.2 t (by omega), h2, oI_some]
  unfold f_Ref_treesOf
  rw [x_gI (by omega) (by decide), nI_clamp (by omega), e1, x_gI (by omega) (by decide), nI_clamp (by omega), e2, d_ixI, x_gI (d_ix_lt (by omega) hi hj) (by decide), nI_clamp (by have := d_ix_lt (show A < 100 by omega) hi hj; omega)]
/-- the terms of a step -/
def d_t (rw_ : Nat → Nat) (vt : Nat → Option Nat) (ra : Nat → Nat → Nat) (c : Nat → Nat → Nat → Nat) (r q a b A m : Nat) : Nat := if a < m then s2 (g_wy rw_ vt ra c r q a m) * c A m b else 0
theorem q_stepL (hm : m_S sz so ty rk) (hd : d_S sz so ty rk D_symbols D_sorts D_types D_sortOf) (hR : m_R sz ty rk cl us op rs fi al) {r q a b s A : Nat} (hr : r < cl) (hq : q < grl fi r) (hb : b < 60) (hs : s < sz) (hg : gvt ty rk s = some A) (hc : ∀ A k l, k < l → c A k l ≤ 2) (many ways : Nat → Int32)
    (hprev : ∀ m, m < b → ways (d_wx fi r q m) = nI (s2 (g_wy rw_ (gvt ty rk) (gra fi al) c r q a m))) (hmany : ∀ m, a < m → m < b → many (d_ix A m b) = nI (c A m b)) :
    ∀ (k m : Nat), a < m → m ≤ b → b - m < k → sm m (d_t rw_ (gvt ty rk) (gra fi al) c r q a b A) ≤ 6 →
      ∃ w x, f_Ref_step_L102 n (nI s) ((60 : Int32) * ((nI (fi r) + nI r) + nI (q + 1))) (nI b) D_types D_sortOf many ways k (nI m) (nI (sm m (d_t rw_ (gvt ty rk) (gra fi al) c r q a b A))) = some (w, nI x) ∧ x ≤ 6 ∧ s2 x = s2 (sm b (d_t rw_ (gvt ty rk) (gra fi al) c r q a b A)) := by
  intro k
  induction k with
  | zero => intro m _ _ h; exact absurd h (Nat.not_lt_zero _)
  | succ k ih =>
    intro m ham hmb hk h6
    rw [f_Ref_step_L102]
    by_cases h : b ≤ m
    · have e : m = b := by omega
      subst e
      rw [if_pos (by rw [i_le (by omega) (by omega)]; exact h)]
      exact ⟨_, _, rfl, h6, rfl⟩
    · rw [if_neg (by rw [i_le (by omega) (by omega)]; exact h)]
      by_cases h2 : 2 ≤ sm m (d_t rw_ (gvt ty rk) (gra fi al) c r q a b A)
      · rw [if_pos (by rw [i_lit, i_le (by omega) (by decide)]; exact h2)]
        refine ⟨_, _, rfl, h6, ?_⟩
        have h3 : sm m (d_t rw_ (gvt ty rk) (gra fi al) c r q a b A) ≤ sm b (d_t rw_ (gvt ty rk) (gra fi al) c r q a b A) := by
          have : ∀ d, sm m (d_t rw_ (gvt ty rk) (gra fi al) c r q a b A) ≤ sm (m + d) (d_t rw_ (gvt ty rk) (gra fi al) c r q a b A) := by
            intro d
            induction d with
            | zero => exact Nat.le_refl _
            | succ d ih2 => exact Nat.le_trans ih2 (Nat.le_add_right _ _)
          have := this (b - m)
          rw [show m + (b - m) = b by omega] at this
          exact this
        rw [s2_2.mpr h2, s2_2.mpr (by omega)]
      · rw [if_neg (by rw [i_lit, i_le (by omega) (by decide)]; exact h2)]
        have hix : ((60 : Int32) * ((nI (fi r) + nI r) + nI (q + 1))) - (60 : Int32) + nI m = nI (d_wx fi r q m) := by
          rw [show (60 : Int32) = nI 60 from rfl, i_add, i_add, i_mul, i_sub (by omega), i_add]
          unfold d_wx
          exact congrArg nI (by omega)
        have hlt := d_wx_lt hR hr (show q ≤ grl fi r by omega) (show m < 60 by omega)
        have hterm : d_t rw_ (gvt ty rk) (gra fi al) c r q a b A m = s2 (g_wy rw_ (gvt ty rk) (gra fi al) c r q a m) * c A m b := if_pos ham
        have hle : d_t rw_ (gvt ty rk) (gra fi al) c r q a b A m ≤ 4 := by
          rw [hterm]
          exact Nat.mul_le_mul (s2_le _) (hc A m b (by omega))
        have hsum : sm (m + 1) (d_t rw_ (gvt ty rk) (gra fi al) c r q a b A) = sm m (d_t rw_ (gvt ty rk) (gra fi al) c r q a b A) + d_t rw_ (gvt ty rk) (gra fi al) c r q a b A m := rfl
        rw [hix, x_gI hlt (by decide), nI_clamp (by omega), hprev m (by omega), nI_1]
        have ihm := ih (m + 1) (by omega) (by omega) (by omega) (by rw [hsum]; omega)
        rw [hsum] at ihm
        by_cases h0 : s2 (g_wy rw_ (gvt ty rk) (gra fi al) c r q a m) = 0
        · rw [if_pos (by rw [h0]; rfl)]
          have e : d_t rw_ (gvt ty rk) (gra fi al) c r q a b A m = 0 := by rw [hterm, h0, Nat.zero_mul]
          rw [e] at ihm
          rw [show (0 : Int32) = nI 0 from rfl, i_add (sm m (d_t rw_ (gvt ty rk) (gra fi al) c r q a b A))]
          exact ihm
        · rw [if_neg (by rw [i_eq0 (s2_wy_le _)]; exact h0), q_treesOf hm hd hs hg (by omega) hb, bind_some, hmany m ham (by omega), i_mul, ← hterm, i_add (sm m (d_t rw_ (gvt ty rk) (gra fi al) c r q a b A))]
          exact ihm
/-- one step of a rule -/
theorem q_step (hn : 40000 ≤ n) (hm : m_S sz so ty rk) (hd : d_S sz so ty rk D_symbols D_sorts D_types D_sortOf) (hR : m_R sz ty rk cl us op rs fi al) (hD : d_R cl us op rs fi al D_rules D_isOpen D_all D_makes D_starts D_told) (hW : m_W sz ln rw_) (hw : a_W ln rw_ D_length D_row) {r q a b : Nat} (hr : r < cl) (hq : q < grl fi r) (hab : a + q < b) (hb : b ≤ ln) (hc : ∀ A k l, k < l → c A k l ≤ 2) (many ways : Nat → Int32)
    (hprev : ∀ m, m < b → ways (d_wx fi r q m) = nI (s2 (g_wy rw_ (gvt ty rk) (gra fi al) c r q a m))) (hmany : ∀ A, A < so → ∀ m, a < m → m < b → many (d_ix A m b) = nI (c A m b)) :
    ∃ ways', f_Ref_step n D_types D_sortOf D_starts D_told D_row many ways (nI r) (nI (q + 1)) (nI a) (nI b) = some ways' ∧ (∀ p, p ≠ d_wx fi r (q + 1) b → ways' p = ways p) ∧
      (if q = 0 ∧ gvt ty rk (gra fi al r 0) ≠ none then ways' (d_wx fi r (q + 1) b) = ways (d_wx fi r (q + 1) b) else ways' (d_wx fi r (q + 1) b) = nI (s2 (g_wy rw_ (gvt ty rk) (gra fi al) c r (q + 1) a b))) := by
  have hsz := hm.1
  have h59 := hW.1
  have hcl := hR.1
  have hus := hR.2.1
  have h1 := m_fi_us hR hr
  have hgl : grl fi r = fi (r + 1) - fi r := rfl
  have hal : al (fi r + q) < sz := hR.2.2.2.2.2.2.2.2.1 (fi r + q) (by omega)
  have hst : D_starts r = nI (fi r) := hD.2.2.2.2.1 r (by omega)
  have hto : D_told (fi r + q) = nI (al (fi r + q)) := hD.2.2.2.2.2 (fi r + q) (by omega)
  have hix : nI (fi r) + nI (q + 1) - (1 : Int32) = nI (fi r + q) := by
    rw [i_add, show (1 : Int32) = nI 1 from rfl, i_sub (by omega)]
    exact congrArg nI (by omega)
  have hlt := d_wx_lt hR hr (show q + 1 ≤ grl fi r by omega) (show b < 60 by omega)
  have hg0 : gra fi al r q = al (fi r + q) := rfl
  unfold f_Ref_step
  rw [x_gI (by omega) (by decide), x_gI (by omega) (by decide), nI_clamp (by omega), hst, hix, x_gI (by omega) (by decide), nI_clamp (by omega), hto, x_gI (by omega) (by decide), nI_clamp (by omega), hd.2.2.1 _ hal]
  have hwI := d_wxI fi r (q + 1) b
  have hwc : (nI (d_wx fi r (q + 1) b)).toNatClampNeg = d_wx fi r (q + 1) b := nI_clamp (by omega)
  cases hg : gvt ty rk (al (fi r + q)) with
  | none =>
    have hty := (gvt_none hm hal).mp hg
    rw [if_pos (by rw [hty]; rfl), i_back (by omega), x_gI (by omega) (by decide), nI_clamp (by omega), hw.2 (b - 1) (by omega)]
    have hn0 : ¬ (q = 0 ∧ gvt ty rk (gra fi al r 0) ≠ none) := fun z => z.2 (by rw [← z.1]; exact hg)
    have hrow := hW.2 (b - 1) (by omega)
    have hsum : g_wy rw_ (gvt ty rk) (gra fi al) c r (q + 1) a b = if rw_ (b - 1) = al (fi r + q) then g_wy rw_ (gvt ty rk) (gra fi al) c r q a (b - 1) else 0 := by
      show sm b (fun m => g_wy rw_ (gvt ty rk) (gra fi al) c r q a m * g_sp rw_ (gvt ty rk) c (al (fi r + q)) m b) = _
      have hsp : ∀ m, g_sp rw_ (gvt ty rk) c (al (fi r + q)) m b = if b = m + 1 ∧ rw_ m = al (fi r + q) then 1 else 0 := fun m => by
        unfold g_sp
        rw [hg]
      rw [sm_one (k := b - 1) (by omega) (fun m _ hne => by rw [hsp, if_neg (by omega), Nat.mul_zero]), hsp]
      by_cases z : rw_ (b - 1) = al (fi r + q)
      · rw [if_pos z, if_pos ⟨by omega, z⟩, Nat.mul_one]
      · rw [if_neg z, if_neg (fun y => z y.2), Nat.mul_zero]
    by_cases z : rw_ (b - 1) = al (fi r + q)
    · have hix2 : ((60 : Int32) * ((nI (fi r) + nI r) + nI (q + 1))) - (60 : Int32) + nI b - (1 : Int32) = nI (d_wx fi r q (b - 1)) := by
        rw [show (60 : Int32) = nI 60 from rfl, show (1 : Int32) = nI 1 from rfl, i_add, i_add, i_mul, i_sub (by omega), i_add, i_sub (by omega)]
        unfold d_wx
        exact congrArg nI (by omega)
      have hlt2 := d_wx_lt hR hr (show q ≤ grl fi r by omega) (show b - 1 < 60 by omega)
      rw [if_pos (by rw [z]), hix2, x_gI hlt2 (by decide), hwI, x_gI hlt (by decide), hwc, nI_clamp (by omega), hprev (b - 1) (by omega), q_nar (s2_le _)]
      refine ⟨_, rfl, fun p hp => pk_un hp, ?_⟩
      rw [if_neg hn0, hsum, if_pos z]
      exact pk_us
    · rw [if_neg (by rw [i_eq (by omega) (by omega)]; exact z), hwI, x_gI hlt (by decide), hwc, show (0 : Int32) = nI 0 from rfl, q_nar (by omega)]
      refine ⟨_, rfl, fun p hp => pk_un hp, ?_⟩
      rw [if_neg hn0, hsum, if_neg z]
      exact pk_us
  | some A =>
    obtain ⟨t, ht, -⟩ := gvt_some hg
    have ht31 := hm.ty_lt hal ht
    rw [if_neg (by rw [ht, oI_some, i_m1 ht31]; exact id)]
    by_cases h0 : q = 0
    · subst h0
      rw [if_pos (by decide)]
      have hy : (0 = 0 ∧ gvt ty rk (gra fi al r 0) ≠ none) := ⟨rfl, fun z => by
        have hg' : gvt ty rk (gra fi al r 0) = some A := hg
        rw [hg'] at z
        cases z⟩
      refine ⟨_, rfl, fun _ _ => rfl, ?_⟩
      rw [if_pos hy]
    · rw [if_neg (by rw [show (1 : Int32) = nI 1 from rfl, i_le (by decide) (by omega)]; omega), nI_1]
      have hA := gvt_lt hm hg
      have hpre : sm (a + 1) (d_t rw_ (gvt ty rk) (gra fi al) c r q a b A) = 0 := sm_0 (fun m hm2 => if_neg (by omega))
      obtain ⟨w, x, f1, f2, f3⟩ := q_stepL (n := n) (rw_ := rw_) (c := c) hm hd hR hr hq (show b < 60 by omega) hal hg hc many ways hprev (fun m h1 h2 => hmany A hA m h1 h2) n (a + 1) (by omega) (by omega) (by omega) (by rw [hpre]; omega)
      rw [hpre] at f1
      rw [show (0 : Int32) = nI 0 from rfl, f1, bind_some]
      show ∃ ways', ((f_Ref_capped n (nI x)).bind fun x8 => _) = some ways' ∧ _
      rw [q_capped (by omega), bind_some, hwI, x_gI hlt (by decide), hwc, q_nar8 (s2_le _), f3]
      refine ⟨_, rfl, fun p hp => pk_un hp, ?_⟩
      rw [if_neg (fun z => h0 z.1), pk_us]
      congr 1
      show _ = s2 (sm b (fun m => g_wy rw_ (gvt ty rk) (gra fi al) c r q a m * g_sp rw_ (gvt ty rk) c (al (fi r + q)) m b))
      refine s2_smc (fun m hm2 => ?_)
      have hsp : g_sp rw_ (gvt ty rk) c (al (fi r + q)) m b = c A m b := by
        unfold g_sp
        rw [hg]
        exact if_pos hm2
      rw [hsp]
      unfold d_t
      by_cases z : a < m
      · rw [if_pos z, s2_mul (s2 _), s2_s2, ← s2_mul]
      · rw [if_neg z, g_wy_0 (by omega), Nat.zero_mul]
end RL
