/-! The class: how many ways a rule of several symbols has to end at e, from the start i -/
section WY
variable {x : Nat → Nat} {vt : Nat → Option Nat} {ra : Nat → Nat → Nat} {c : Nat → Nat → Nat → Nat}
/-- no way so far: none later -/
theorem g_wy_dead {r p i e : Nat} (h : ∀ k, k < e → g_wy x vt ra c r p i k = 0) : ∀ {q : Nat}, p ≤ q → (∀ k, k < e → g_wy x vt ra c r q i k = 0) ∧ g_wy x vt ra c r (q + 1) i e = 0 := by
  intro q
  induction q with
  | zero =>
    intro hp
    have e0 : p = 0 := by omega
    subst e0
    exact ⟨h, sm_0 (fun k hk => by rw [h k hk, Nat.zero_mul])⟩
  | succ q ih =>
    intro hp
    by_cases z : p = q + 1
    · subst z
      exact ⟨h, sm_0 (fun k hk => by rw [h k hk, Nat.zero_mul])⟩
    · obtain ⟨i1, i2⟩ := ih (by omega)
      have h2 : ∀ k, k < e → g_wy x vt ra c r (q + 1) i k = 0 := fun k hk => sm_0 (fun m hm => by rw [i1 m (by omega), Nat.zero_mul])
      exact ⟨h2, sm_0 (fun k hk => by rw [h2 k hk, Nat.zero_mul])⟩
end WY
/-- a set that is kept for a place of a rule: up to the ends below e it is right -/
def c_rok (x : Nat → Nat) (vt : Nat → Option Nat) (ra : Nat → Nat → Nat) (c : Nat → Nat → Nat → Nat) (r i p e : Nat) (P Q : Int64) : Prop :=
  (∀ k, bb Q k = true → bb P k = true) ∧ (∀ k, bb P k = true → k < 60) ∧ ∀ k, bv P Q k = if k < e then s2 (g_wy x vt ra c r p i k) else 0
theorem bv_0 {P Q : Int64} {k : Nat} : bv P Q k = 0 → bb P k = false := by
  unfold bv
  intro h
  split at h
  · cases h
  · split at h
    · cases h
    · rename_i h1 h2
      cases hb : bb P k with
      | false => rfl
      | true => exact absurd hb h2
theorem bv_zero {Q : Int64} {k : Nat} (h : ∀ k, bb Q k = true → bb (0 : Int64) k = true) : bv 0 Q k = 0 := by
  unfold bv
  have h1 : ¬ bb Q k = true := fun z => by
    have := h k z
    rw [bb_0] at this
    cases this
  rw [if_neg h1, bb_0, if_neg (by decide)]
/-- a set with one more place -/
theorem c_rok_add {x : Nat → Nat} {vt : Nat → Option Nat} {ra : Nat → Nat → Nat} {c : Nat → Nat → Nat → Nat} {r i p e : Nat} {P Q : Int64} (h : c_rok x vt ra c r i p e P Q) (he : e < 60) {P' Q' : Int64} (w : Nat) (hw : w = s2 (g_wy x vt ra c r p i e))
    (hP : P' = if 0 < w then P ||| bI e else P) (hQ : Q' = if w = 2 then Q ||| bI e else Q) : c_rok x vt ra c r i p (e + 1) P' Q' := by
  obtain ⟨h1, h2, h3⟩ := h
  have w2 : w ≤ 2 := by rw [hw]; exact s2_le _
  have bP : ∀ k, bb P' k = (bb P k || (decide (0 < w) && decide (k = e))) := by
    intro k
    rw [hP]
    by_cases q : 0 < w
    · rw [if_pos q, bb_or, bb_bI (by omega)]; simp [q]
    · rw [if_neg q]; simp [q]
  have bQ : ∀ k, bb Q' k = (bb Q k || (decide (w = 2) && decide (k = e))) := by
    intro k
    rw [hQ]
    by_cases q : w = 2
    · rw [if_pos q, bb_or, bb_bI (by omega)]; simp [q]
    · rw [if_neg q]; simp [q]
  have he0 := h3 e
  rw [if_neg (Nat.lt_irrefl e)] at he0
  have pe : bb P e = false := bv_0 he0
  have qe : bb Q e = false := by
    cases hb : bb Q e with
    | false => rfl
    | true => rw [h1 e hb] at pe; cases pe
  refine ⟨fun k hk => ?_, fun k hk => ?_, fun k => ?_⟩
  · rw [bQ] at hk
    rw [bP]
    by_cases q : k = e
    · subst q
      rw [qe] at hk
      have : w = 2 := by simpa using hk
      simp [this]
    · have : bb Q k = true := by simpa [q] using hk
      rw [h1 k this]
      rfl
  · rw [bP] at hk
    by_cases q : k = e
    · omega
    · have : bb P k = true := by simpa [q] using hk
      exact h2 k this
  · by_cases q : k = e
    · subst q
      rw [if_pos (Nat.lt_succ_self k), ← hw]
      unfold bv
      rw [bP, bQ, pe, qe]
      have : w = 0 ∨ w = 1 ∨ w = 2 := by omega
      rcases this with z | z | z <;> subst z <;> simp
    · have e1 : bv P' Q' k = bv P Q k := by
        unfold bv
        rw [bP, bQ]
        simp [q]
      rw [e1, h3 k]
      by_cases z : k < e
      · rw [if_pos z, if_pos (by omega)]
      · rw [if_neg z, if_neg (by omega)]
section WE
variable {n sz so : Nat} {ty rk : Nat → Option Nat} {cl us : Nat} {op : Bool} {rs fi al : Nat → Nat} {S_size S_sorts : Int32} {S_types S_ranks S_typeRanks : Nat → Int32} {R_closed R_used R_isOpen : Int32} {R_sorts R_all R_firsts R_newestWraps R_olderWraps : Nat → Int32} {ln : Nat} {rw_ : Nat → Nat} {W_length : Int32} {W_row : Nat → Int32} {C_starts C_severalStarts : Nat → Int64} {c : Nat → Nat → Nat → Nat}
theorem p_symAt (hA : a_R ty rk cl us op rs fi al R_closed R_used R_isOpen R_sorts R_all R_firsts R_newestWraps R_olderWraps) (hus : us ≤ 30000) {p : Nat} (hp : p < us) : f_Rules_symbolAt n R_used R_all (nI p) = some (nI (al p)) := by
  unfold f_Rules_symbolAt
  rw [if_neg (nI_pos (by omega)), hA.2.1, if_neg (by rw [i_le (by omega) (by omega)]; omega), x_gI (by omega) (by decide), nI_clamp (by omega), hA.2.2.2.2.2.1 p hp]
/-- one step of a rule: the class's number of ways is the count's -/
theorem c_step {r i p e : Nat} {P Q : Int64} (he : e ≤ ln) (hln : ln ≤ 59) (hc : ∀ A k l, k < l → c A k l ≤ 2) (hsub : ∀ k, bb Q k = true → bb P k = true) (hP60 : ∀ k, bb P k = true → k < 60)
    (hbv : ∀ k, k < e → bv P Q k = s2 (g_wy rw_ (gvt ty rk) (gra fi al) c r p i k)) (hp : 1 ≤ p)
    (hst : ∀ A, A < so → (∀ k, bb (C_severalStarts (A * 60 + e)) k = true → bb (C_starts (A * 60 + e)) k = true) ∧ ∀ k, bv (C_starts (A * 60 + e)) (C_severalStarts (A * 60 + e)) k = if i < k ∧ k < e then c A k e else 0)
    (hm : m_S sz so ty rk) : wb P Q (c_st (gvt ty rk) rw_ ln C_starts (gra fi al r p) e) (c_sv (gvt ty rk) C_severalStarts (gra fi al r p) e) = s2 (g_wy rw_ (gvt ty rk) (gra fi al) c r (p + 1) i e) := by
  have key : (∀ k, bb (c_sv (gvt ty rk) C_severalStarts (gra fi al r p) e) k = true → bb (c_st (gvt ty rk) rw_ ln C_starts (gra fi al r p) e) k = true) ∧
      (∀ k, i < k → bv (c_st (gvt ty rk) rw_ ln C_starts (gra fi al r p) e) (c_sv (gvt ty rk) C_severalStarts (gra fi al r p) e) k = s2 (g_sp rw_ (gvt ty rk) c (gra fi al r p) k e)) ∧
      (∀ k, bb (c_st (gvt ty rk) rw_ ln C_starts (gra fi al r p) e) k = true → k < e) := by
    unfold c_sv c_st g_sp
    cases hg : gvt ty rk (gra fi al r p) with
    | none =>
      dsimp only
      refine ⟨fun k hk => (by rw [bb_0] at hk; cases hk), fun k _ => ?_, fun k hk => ?_⟩
      · unfold bv
        rw [bb_0, if_neg (by decide)]
        by_cases q : 0 < e ∧ e ≤ ln ∧ rw_ (e - 1) = gra fi al r p
        · rw [if_pos q, bb_bI (by omega)]
          by_cases z : k = e - 1
          · subst z
            rw [if_pos (by simp), if_pos ⟨by omega, q.2.2⟩]; rfl
          · rw [if_neg (by simp [z]), if_neg (fun w => z (by omega))]; rfl
        · rw [if_neg q, bb_0, if_neg (by decide), if_neg (fun w => q ⟨by omega, he, by rw [w.1, Nat.add_sub_cancel]; exact w.2⟩)]; rfl
      · by_cases q : 0 < e ∧ e ≤ ln ∧ rw_ (e - 1) = gra fi al r p
        · rw [if_pos q, bb_bI (by omega)] at hk
          have : k = e - 1 := by simpa using hk
          omega
        · rw [if_neg q, bb_0] at hk; cases hk
    | some A =>
      dsimp only
      obtain ⟨s1, s2'⟩ := hst A (gvt_lt hm hg)
      refine ⟨s1, fun k hk => ?_, fun k hk => ?_⟩
      · rw [s2' k]
        by_cases z : k < e
        · rw [if_pos ⟨hk, z⟩, if_pos z, s2_id (hc A k e z)]
        · rw [if_neg (fun w => z w.2), if_neg z]; rfl
      · apply Classical.byContradiction
        intro z
        have h0 := s2' k
        rw [if_neg (fun w => z w.2)] at h0
        rw [bv_0 h0] at hk
        cases hk
  obtain ⟨k1, k2, k3⟩ := key
  rw [wb_sum (N := e) hsub k1 (fun k _ h => k3 k h)]
  show _ = s2 (sm e (fun k => g_wy rw_ (gvt ty rk) (gra fi al) c r p i k * g_sp rw_ (gvt ty rk) c (gra fi al r p) k e))
  refine s2_smc (fun k hk => ?_)
  rw [hbv k hk]
  by_cases z : i < k
  · rw [k2 k z, ← s2_mul]
  · rw [g_wy_0 (show k < i + p by omega), Nat.zero_mul, show s2 0 = 0 from rfl, Nat.zero_mul]
    rfl
end WE
theorem wb_le (p q s t : Int64) : wb p q s t ≤ 2 := by
  unfold wb
  split
  · omega
  · split
    · split <;> omega
    · omega
section WL
variable {n sz so : Nat} {ty rk : Nat → Option Nat} {cl us : Nat} {op : Bool} {rs fi al : Nat → Nat} {S_size S_sorts : Int32} {S_types S_ranks S_typeRanks : Nat → Int32} {R_closed R_used R_isOpen : Int32} {R_sorts R_all R_firsts R_newestWraps R_olderWraps : Nat → Int32} {ln : Nat} {rw_ : Nat → Nat} {W_length : Int32} {W_row : Nat → Int32} {C_starts C_severalStarts : Nat → Int64} {c : Nat → Nat → Nat → Nat}
theorem p_L60_step (hm : m_S sz so ty rk) (ha : a_S sz so ty rk S_size S_sorts S_types S_ranks S_typeRanks) (hR : m_R sz ty rk cl us op rs fi al) (hA : a_R ty rk cl us op rs fi al R_closed R_used R_isOpen R_sorts R_all R_firsts R_newestWraps R_olderWraps) (hW : m_W sz ln rw_) (hw : a_W ln rw_ W_length W_row)
    {bh q e k : Nat} (hq : q < bh) (hbh : bh ≤ us) (he : e < 60) {ways : Int32} {P Q : Int64} (h0 : P ≠ 0) (reach sevR : Nat → Int64) (w : Nat) (hwb : w = wb P Q (c_st (gvt ty rk) rw_ ln C_starts (al q) e) (c_sv (gvt ty rk) C_severalStarts (al q) e)) :
    f_Chart_waysToEnd_L60 n (nI bh) (nI e) S_size S_typeRanks R_used R_all W_length W_row C_starts C_severalStarts (k + 1) (nI q) ways Q P reach sevR =
      f_Chart_waysToEnd_L60 n (nI bh) (nI e) S_size S_typeRanks R_used R_all W_length W_row C_starts C_severalStarts k (nI (q + 1)) (nI w) ((if w = 2 then vp_updL sevR q (sevR q ||| bI e) else sevR) q) ((if 0 < w then vp_updL reach q (reach q ||| bI e) else reach) q) (if 0 < w then vp_updL reach q (reach q ||| bI e) else reach) (if w = 2 then vp_updL sevR q (sevR q ||| bI e) else sevR) := by
  have hus := hR.2.1
  have hin : ∀ {α : Type} (z : Option α), x_g (nI q) 30000 z = z := fun z => x_gI (by omega) (by decide)
  have hcl : (nI q).toNatClampNeg = q := nI_clamp (by omega)
  have hal := hR.2.2.2.2.2.2.2.2.1 q (by omega)
  have w2 : w ≤ 2 := by rw [hwb]; exact wb_le _ _ _ _
  rw [f_Chart_waysToEnd_L60, if_neg (by rw [i_le (by omega) (by omega)]; omega), if_neg (fun z => h0 (lc_0.mp z)), p_symAt hA hus (by omega), bind_some, p_waysBetween hm ha hW hw hal he, ← hwb, bind_some]
  simp only [hin, hcl, p_bit, bind_some, nI_1]
  have : w = 0 ∨ w = 1 ∨ w = 2 := by omega
  rcases this with z | z | z
  · subst z
    rw [if_pos (by decide), if_neg (by decide), if_neg (by decide), if_neg (by decide)]
  · subst z
    rw [if_neg (by decide), if_neg (by decide), if_neg (by decide), if_pos (by decide)]
  · subst z
    rw [if_neg (by decide), if_pos (by decide), if_pos (by decide), if_pos (by decide)]
/-- the loop over a rule's symbols -/
theorem p_L60 (hm : m_S sz so ty rk) (ha : a_S sz so ty rk S_size S_sorts S_types S_ranks S_typeRanks) (hR : m_R sz ty rk cl us op rs fi al) (hA : a_R ty rk cl us op rs fi al R_closed R_used R_isOpen R_sorts R_all R_firsts R_newestWraps R_olderWraps) (hW : m_W sz ln rw_) (hw : a_W ln rw_ W_length W_row)
    {r i e : Nat} (hr : r < cl) (hr2 : 2 ≤ grl fi r) (he : e ≤ ln) (hc : ∀ A k l, k < l → c A k l ≤ 2)
    (hst : ∀ A, A < so → (∀ k, bb (C_severalStarts (A * 60 + e)) k = true → bb (C_starts (A * 60 + e)) k = true) ∧ ∀ k, bv (C_starts (A * 60 + e)) (C_severalStarts (A * 60 + e)) k = if i < k ∧ k < e then c A k e else 0) :
    ∀ (k p : Nat) (ways : Nat) (P Q : Int64) (reach sevR : Nat → Int64), 1 ≤ p → p ≤ grl fi r → grl fi r - p < k →
      (∀ t, bb Q t = true → bb P t = true) → (∀ t, bb P t = true → t < 60) → (∀ t, t < e → bv P Q t = s2 (g_wy rw_ (gvt ty rk) (gra fi al) c r p i t)) →
      (p = 1 ∧ ways = 0 ∨ ways = s2 (g_wy rw_ (gvt ty rk) (gra fi al) c r p i e) ∧ bv P Q e = s2 (g_wy rw_ (gvt ty rk) (gra fi al) c r p i e)) →
      (∀ q, 1 ≤ q → q < grl fi r → c_rok rw_ (gvt ty rk) (gra fi al) c r i (q + 1) (if q < p then e + 1 else e) (reach (fi r + q)) (sevR (fi r + q))) →
      ∃ pl P' Q' reach' sevR', f_Chart_waysToEnd_L60 n (nI (fi r + grl fi r)) (nI e) S_size S_typeRanks R_used R_all W_length W_row C_starts C_severalStarts k (nI (fi r + p)) (nI ways) Q P reach sevR = some (pl, nI (s2 (g_wy rw_ (gvt ty rk) (gra fi al) c r (grl fi r) i e)), Q', P', reach', sevR') ∧
        (∀ q, 1 ≤ q → q < grl fi r → c_rok rw_ (gvt ty rk) (gra fi al) c r i (q + 1) (e + 1) (reach' (fi r + q)) (sevR' (fi r + q))) ∧ (∀ z, (z < fi r ∨ fi (r + 1) ≤ z) → reach' z = reach z ∧ sevR' z = sevR z) := by
  have h59 := hW.1
  have hus := hR.2.1
  have hfl : fi r + grl fi r ≤ us := by
    have q1 := (hR.2.2.2.1 r hr).1
    have q2 := m_fi_mono (fun z hz => (hR.2.2.2.1 z hz).1) (show r + 1 ≤ cl from hr) (Nat.le_refl cl)
    have q3 := hR.2.2.2.2.1
    unfold grl
    omega
  have hfe : fi r + grl fi r = fi (r + 1) := by
    have q1 := (hR.2.2.2.1 r hr).1
    unfold grl
    omega
  intro k
  induction k with
  | zero => intro p ways P Q reach sevR _ _ h; exact absurd h (Nat.not_lt_zero _)
  | succ k ih =>
    intro p ways P Q reach sevR hp1 hp2 hk hs1 hs2 hbv hwy hro
    by_cases hend : p = grl fi r
    · rw [f_Chart_waysToEnd_L60, if_pos (by rw [i_le (by omega) (by omega)]; omega)]
      have hw1 : ways = s2 (g_wy rw_ (gvt ty rk) (gra fi al) c r (grl fi r) i e) := by
        rcases hwy with ⟨z1, z2⟩ | ⟨z, -⟩
        · omega
        · rw [z, hend]
      refine ⟨_, _, _, _, _, by rw [hw1], fun q q1 q2 => ?_, fun _ _ => ⟨rfl, rfl⟩⟩
      have := hro q q1 q2
      rw [if_pos (by omega)] at this
      exact this
    · by_cases h0 : P = 0
      · have hz : ∀ t, t < e → g_wy rw_ (gvt ty rk) (gra fi al) c r p i t = 0 := fun t ht => by
          have := hbv t ht
          rw [h0, bv_zero (by rw [h0] at hs1; exact hs1)] at this
          exact s2_0.mp this.symm
        have hd := fun q (hq : p ≤ q) => g_wy_dead hz hq
        have hlast : g_wy rw_ (gvt ty rk) (gra fi al) c r (grl fi r) i e = 0 := by
          have := (hd (grl fi r - 1) (by omega)).2
          rw [show grl fi r - 1 + 1 = grl fi r by omega] at this
          exact this
        have hw0 : ways = 0 := by
          rcases hwy with ⟨_, z2⟩ | ⟨z, z3⟩
          · exact z2
          · rw [z, ← z3, h0]
            exact bv_zero (by rw [h0] at hs1; exact hs1)
        rw [f_Chart_waysToEnd_L60, if_neg (by rw [i_le (by omega) (by omega)]; omega), if_pos (lc_0.mpr h0)]
        refine ⟨_, _, _, _, _, by rw [hw0, hlast]; rfl, fun q q1 q2 => ?_, fun _ _ => ⟨rfl, rfl⟩⟩
        have := hro q q1 q2
        by_cases hqp : q < p
        · rw [if_pos hqp] at this; exact this
        · rw [if_neg hqp] at this
          refine c_rok_add this (by omega) 0 ?_ rfl rfl
          rw [(hd q (by omega)).2]; rfl
      · have hpl : p < grl fi r := by omega
        have hcs := c_step (e := e) (r := r) (i := i) he h59 hc hs1 hs2 hbv hp1 hst hm
        have hstep := p_L60_step (n := n) (k := k) (C_starts := C_starts) (C_severalStarts := C_severalStarts) hm ha hR hA hW hw (bh := fi r + grl fi r) (q := fi r + p) (e := e) (by omega) hfl (by omega) (ways := nI ways) (P := P) (Q := Q) h0 reach sevR _ rfl
        rw [hstep]
        have hcs' : wb P Q (c_st (gvt ty rk) rw_ ln C_starts (al (fi r + p)) e) (c_sv (gvt ty rk) C_severalStarts (al (fi r + p)) e) = s2 (g_wy rw_ (gvt ty rk) (gra fi al) c r (p + 1) i e) := hcs
        rw [hcs']
        generalize hRE : (if 0 < s2 (g_wy rw_ (gvt ty rk) (gra fi al) c r (p + 1) i e) then vp_updL reach (fi r + p) (reach (fi r + p) ||| bI e) else reach) = RE
        generalize hSE : (if s2 (g_wy rw_ (gvt ty rk) (gra fi al) c r (p + 1) i e) = 2 then vp_updL sevR (fi r + p) (sevR (fi r + p) ||| bI e) else sevR) = SE
        have hrp := hro p hp1 hpl
        rw [if_neg (Nat.lt_irrefl p)] at hrp
        have eR : ∀ z, RE z = if z = fi r + p then (if 0 < s2 (g_wy rw_ (gvt ty rk) (gra fi al) c r (p + 1) i e) then reach (fi r + p) ||| bI e else reach (fi r + p)) else reach z := by
          intro z
          rw [← hRE]
          by_cases z1 : z = fi r + p
          · rw [if_pos z1, z1]
            split
            · exact pk_uLs
            · rfl
          · rw [if_neg z1]
            split
            · exact pk_uLn z1
            · rfl
        have eS : ∀ z, SE z = if z = fi r + p then (if s2 (g_wy rw_ (gvt ty rk) (gra fi al) c r (p + 1) i e) = 2 then sevR (fi r + p) ||| bI e else sevR (fi r + p)) else sevR z := by
          intro z
          rw [← hSE]
          by_cases z1 : z = fi r + p
          · rw [if_pos z1, z1]
            split
            · exact pk_uLs
            · rfl
          · rw [if_neg z1]
            split
            · exact pk_uLn z1
            · rfl
        have hnew := c_rok_add hrp (show e < 60 by omega) _ rfl rfl rfl
        obtain ⟨pl, P', Q', reach', sevR', g1, g2, g3⟩ := ih (p + 1) (s2 (g_wy rw_ (gvt ty rk) (gra fi al) c r (p + 1) i e)) (RE (fi r + p)) (SE (fi r + p)) RE SE (by omega) (by omega) (by omega)
          (by rw [eR, eS, if_pos rfl, if_pos rfl]; exact hnew.1) (by rw [eR, if_pos rfl]; exact hnew.2.1)
          (fun t ht => by
            rw [eR, eS, if_pos rfl, if_pos rfl, hnew.2.2 t, if_pos (by omega)])
          (Or.inr ⟨rfl, by rw [eR, eS, if_pos rfl, if_pos rfl, hnew.2.2 e, if_pos (Nat.lt_succ_self e)]⟩)
          (fun q q1 q2 => by
            rw [eR, eS]
            by_cases zq : q = p
            · rw [zq, if_pos rfl, if_pos rfl, if_pos (by omega)]; exact hnew
            · rw [if_neg (show ¬ fi r + q = fi r + p by omega), if_neg (show ¬ fi r + q = fi r + p by omega)]
              have := hro q q1 q2
              by_cases zz : q < p
              · rw [if_pos zz] at this; rw [if_pos (by omega)]; exact this
              · rw [if_neg zz] at this; rw [if_neg (by omega)]; exact this)
        refine ⟨pl, P', Q', reach', sevR', g1, g2, fun z hz => ?_⟩
        obtain ⟨m1, m2⟩ := g3 z hz
        rw [eR, if_neg (by omega)] at m1
        rw [eS, if_neg (by omega)] at m2
        exact ⟨m1, m2⟩
end WL
