/-! The reference: the ways of all rules for one stretch; what a stretch has without wraps -/
section RS
variable {n sz so : Nat} {ty rk : Nat → Option Nat} {cl us : Nat} {op : Bool} {rs fi al : Nat → Nat} {D_symbols D_sorts : Int32} {D_types D_sortOf : Nat → Int32} {D_rules D_isOpen D_all : Int32} {D_makes D_starts D_told : Nat → Int32} {ln : Nat} {rw_ : Nat → Nat} {D_length : Int32} {D_row : Nat → Int32} {c : Nat → Nat → Nat → Nat} {u : Nat}
/-- a rule's ways from the start a: right for the ends below b -/
def d_row (ty rk : Nat → Option Nat) (fi al rw_ : Nat → Nat) (c : Nat → Nat → Nat → Nat) (ln a b r : Nat) (ways : Nat → Int32) : Prop := ∀ k, k ≤ grl fi r → ∀ m, m ≤ ln → ways (d_wx fi r k m) = nI (if k = 0 ∨ m < b then s2 (g_wy rw_ (gvt ty rk) (gra fi al) c r k a m) else 0)
/-- the same, and for the end b too but for a first variable -/
def d_row1 (ty rk : Nat → Option Nat) (fi al rw_ : Nat → Nat) (c : Nat → Nat → Nat → Nat) (ln a b r : Nat) (ways : Nat → Int32) : Prop := ∀ k, k ≤ grl fi r → ∀ m, m ≤ ln → ways (d_wx fi r k m) = nI (if k = 0 ∨ m < b ∨ (m = b ∧ ¬ (k = 1 ∧ gvt ty rk (gra fi al r 0) ≠ none)) then s2 (g_wy rw_ (gvt ty rk) (gra fi al) c r k a m) else 0)
theorem q_stretchL99 (hn : 40000 ≤ n) (hm : m_S sz so ty rk) (hd : d_S sz so ty rk D_symbols D_sorts D_types D_sortOf) (hR : m_R sz ty rk cl us op rs fi al) (hD : d_R cl us op rs fi al D_rules D_isOpen D_all D_makes D_starts D_told) (hW : m_W sz ln rw_) (hw : a_W ln rw_ D_length D_row) {r a b : Nat} (hr : r < cl) (hln : grl fi r ≤ ln) (hab : a < b) (hb : b ≤ ln) (hc : ∀ A k l, k < l → c A k l ≤ 2) (many : Nat → Int32) (hmany : ∀ A, A < so → ∀ m, a < m → m < b → many (d_ix A m b) = nI (c A m b)) :
    ∀ (k q : Nat) (ways : Nat → Int32), q ≤ grl fi r → q ≤ b - a → grl fi r - q < k →
      (∀ k, k ≤ grl fi r → ∀ m, m ≤ ln → ways (d_wx fi r k m) = nI (if k = 0 ∨ m < b ∨ (m = b ∧ k ≤ q ∧ ¬ (k = 1 ∧ gvt ty rk (gra fi al r 0) ≠ none)) then s2 (g_wy rw_ (gvt ty rk) (gra fi al) c r k a m) else 0)) →
      ∃ w ways', f_Ref_stretch_L99 n (nI (grl fi r)) (nI r) (nI a) (nI b) D_types D_sortOf D_starts D_told D_row many k (nI (q + 1)) ways = some (w, ways') ∧ d_row1 ty rk fi al rw_ c ln a b r ways' ∧ (∀ p, (∀ k, k ≤ grl fi r → p ≠ d_wx fi r k b) → ways' p = ways p) := by
  have h59 := hW.1
  have fin : ∀ (q : Nat) (ways : Nat → Int32), (q = grl fi r ∨ q = b - a) → (∀ k, k ≤ grl fi r → ∀ m, m ≤ ln → ways (d_wx fi r k m) = nI (if k = 0 ∨ m < b ∨ (m = b ∧ k ≤ q ∧ ¬ (k = 1 ∧ gvt ty rk (gra fi al r 0) ≠ none)) then s2 (g_wy rw_ (gvt ty rk) (gra fi al) c r k a m) else 0)) → d_row1 ty rk fi al rw_ c ln a b r ways := by
    intro q ways hq h k hk m hm2
    rw [h k hk m hm2]
    congr 1
    by_cases z : k = 0 ∨ m < b ∨ (m = b ∧ k ≤ q ∧ ¬ (k = 1 ∧ gvt ty rk (gra fi al r 0) ≠ none))
    · rw [if_pos z, if_pos (z.elim Or.inl (fun y => Or.inr (y.elim Or.inl (fun x => Or.inr ⟨x.1, x.2.2⟩))))]
    · rw [if_neg z]
      by_cases y : k = 0 ∨ m < b ∨ (m = b ∧ ¬ (k = 1 ∧ gvt ty rk (gra fi al r 0) ≠ none))
      · rw [if_pos y]
        have hkq : q < k := by
          apply Classical.byContradiction
          intro x
          refine z (y.elim Or.inl (fun v => Or.inr (v.elim Or.inl (fun t => Or.inr ⟨t.1, by omega, t.2⟩))))
        have hmb : m = b := y.elim (fun v => absurd (Or.inl v) z) (fun v => v.elim (fun t => absurd (Or.inr (Or.inl t)) z) (fun t => t.1))
        rw [g_wy_0 (by omega)]
        rfl
      · rw [if_neg y]
  intro k
  induction k with
  | zero => intro q ways _ _ h; exact absurd h (Nat.not_lt_zero _)
  | succ k ih =>
    intro q ways hq1 hq2 hk hro
    rw [f_Ref_stretch_L99]
    by_cases h1 : q = grl fi r
    · rw [if_pos (by rw [i_lt (by omega) (by omega)]; omega)]
      exact ⟨_, _, rfl, fin q ways (Or.inl h1) hro, fun _ _ => rfl⟩
    · rw [if_neg (by rw [i_lt (by omega) (by omega)]; omega), i_sub (by omega)]
      by_cases h2 : q = b - a
      · rw [if_pos (by rw [i_lt (by omega) (by omega)]; omega)]
        exact ⟨_, _, rfl, fin q ways (Or.inr h2) hro, fun _ _ => rfl⟩
      · rw [if_neg (by rw [i_lt (by omega) (by omega)]; omega)]
        obtain ⟨ways1, f1, f2, f3⟩ := q_step (n := n) (c := c) hn hm hd hR hD hW hw (r := r) (q := q) (a := a) (b := b) hr (by omega) (by omega) hb hc many ways (fun m hm2 => by
          rw [hro q (by omega) m (by omega), if_pos (Or.inr (Or.inl hm2))]) hmany
        rw [f1, bind_some, nI_1]
        obtain ⟨w, ways', g1, g2, g3⟩ := ih (q + 1) ways1 (by omega) (by omega) (by omega) (fun k hk2 m hm2 => by
          by_cases z : k = q + 1 ∧ m = b
          · obtain ⟨z1, z2⟩ := z
            subst z1
            subst z2
            by_cases y : q = 0 ∧ gvt ty rk (gra fi al r 0) ≠ none
            · rw [if_pos y] at f3
              rw [f3, hro (q + 1) hk2 m hm2, if_neg (by
                intro x
                rcases x with x | x | x
                · omega
                · omega
                · omega), if_neg (by
                intro x
                rcases x with x | x | x
                · omega
                · omega
                · exact x.2.2 ⟨by omega, y.2⟩)]
            · rw [if_neg y] at f3
              rw [f3, if_pos (Or.inr (Or.inr ⟨rfl, Nat.le_refl _, fun x => y ⟨by omega, x.2⟩⟩))]
          · have hne : d_wx fi r k m ≠ d_wx fi r (q + 1) b := fun e => by
              obtain ⟨-, e1, e2⟩ := d_wx_inj hR hr hr hk2 (show q + 1 ≤ grl fi r by omega) (show m < 60 by omega) (show b < 60 by omega) e
              exact z ⟨e1, e2⟩
            rw [f2 _ hne, hro k hk2 m hm2]
            congr 1
            by_cases y : k = 0 ∨ m < b ∨ (m = b ∧ k ≤ q ∧ ¬ (k = 1 ∧ gvt ty rk (gra fi al r 0) ≠ none))
            · rw [if_pos y, if_pos (y.elim Or.inl (fun v => Or.inr (v.elim Or.inl (fun t => Or.inr ⟨t.1, by omega, t.2.2⟩))))]
            · rw [if_neg y, if_neg (fun x => y (x.elim Or.inl (fun v => Or.inr (v.elim Or.inl (fun t => Or.inr ⟨t.1, by omega, t.2.2⟩)))))])
        refine ⟨w, ways', g1, g2, fun p hp => ?_⟩
        rw [g3 p hp, f2 p (hp (q + 1) (by omega))]
theorem d_row_frame (hR : m_R sz ty rk cl us op rs fi al) (h59 : ln ≤ 59) {a b r r' : Nat} (hr : r < cl) (hr' : r' < cl) (hne : r' ≠ r) (hb : b ≤ ln) {ways ways' : Nat → Int32} (hf : ∀ p, (∀ k, k ≤ grl fi r → p ≠ d_wx fi r k b) → ways' p = ways p) : ∀ k, k ≤ grl fi r' → ∀ m, m ≤ ln → ways' (d_wx fi r' k m) = ways (d_wx fi r' k m) :=
  fun k hk m hm2 => hf _ (fun k' hk' e => hne (d_wx_inj hR hr' hr hk hk' (by omega) (by omega) e).1)
/-- what one rule gives to a stretch, but for wraps -/
def d_q (ty rk : Nat → Option Nat) (rs fi al rw_ : Nat → Nat) (c : Nat → Nat → Nat → Nat) (a b r A : Nat) : Nat := if grs rk rs r = A then (if grl fi r = 1 then (if gvt ty rk (gra fi al r 0) = none ∧ b = a + 1 ∧ rw_ a = gra fi al r 0 then 1 else 0) else g_wy rw_ (gvt ty rk) (gra fi al) c r (grl fi r) a b) else 0
theorem q_sortOfMakes (hm : m_S sz so ty rk) (hd : d_S sz so ty rk D_symbols D_sorts D_types D_sortOf) (hR : m_R sz ty rk cl us op rs fi al) (hD : d_R cl us op rs fi al D_rules D_isOpen D_all D_makes D_starts D_told) {r : Nat} (hr : r < cl) : D_makes r = nI (rs r) ∧ rs r < sz ∧ D_sortOf (rs r) = nI (grs rk rs r) ∧ grs rk rs r < so := by
  have hsz := hm.1
  obtain ⟨h1, h2, k, hk⟩ := hR.2.2.2.2.2.2.2.2.2 r (Or.inl hr)
  refine ⟨hD.2.2.2.1 r (Or.inl hr), h1, ?_, grs_lt hm hR hr⟩
  rw [hd.2.2.2 _ (by omega), hk, oI_some]
  unfold grs
  rw [hk]
  rfl
theorem q_stretchL73 (hn : 40000 ≤ n) (hm : m_S sz so ty rk) (hd : d_S sz so ty rk D_symbols D_sorts D_types D_sortOf) (hR : m_R sz ty rk cl us op rs fi al) (hD : d_R cl us op rs fi al D_rules D_isOpen D_all D_makes D_starts D_told) (hW : m_W sz ln rw_) (hw : a_W ln rw_ D_length D_row) (hu : u ≤ cl) {a b : Nat} (hab : a < b) (hb : b ≤ ln) (hc : ∀ A k l, k < l → c A k l ≤ 2) (many : Nat → Int32) (hmany : ∀ A, A < so → ∀ m, a < m → m < b → many (d_ix A m b) = nI (c A m b)) (v : Nat → Nat) :
    ∀ (k r : Nat) (ways base : Nat → Int32), r ≤ u → u - r < k →
      (∀ z, z < u → grl fi z ≤ ln → if z < r then d_row1 ty rk fi al rw_ c ln a b z ways else d_row ty rk fi al rw_ c ln a b z ways) →
      (∀ A, A < so → base A = nI (s2 (v A + sm r (fun z => d_q ty rk rs fi al rw_ c a b z A)))) →
      ∃ w ways' base', f_Ref_stretch_L73 n (nI a) (nI b) (nI u) D_length D_types D_sortOf D_makes D_starts D_told D_row many k (nI r) ways base = some (w, ways', base') ∧ (∀ z, z < u → grl fi z ≤ ln → d_row1 ty rk fi al rw_ c ln a b z ways') ∧ (∀ A, A < so → base' A = nI (s2 (v A + sm u (fun z => d_q ty rk rs fi al rw_ c a b z A)))) := by
  have h59 := hW.1
  have hcl := hR.1
  have hus := hR.2.1
  have hsz := hm.1
  have hso := hm.2.1
  intro k
  induction k with
  | zero => intro r ways base _ h; exact absurd h (Nat.not_lt_zero _)
  | succ k ih =>
    intro r ways base hru hk hro hba
    rw [f_Ref_stretch_L73]
    by_cases h : u ≤ r
    · have e : r = u := by omega
      subst e
      rw [if_pos (by rw [i_le (by omega) (by omega)]; exact h)]
      refine ⟨_, _, _, rfl, fun z hz hl => ?_, hba⟩
      have := hro z hz hl
      rw [if_pos hz] at this
      exact this
    · have hr : r < cl := by omega
      have h1 := m_fi_us hR hr
      have h299 := (hR.2.2.2.1 r hr).2
      have hgl : grl fi r = fi (r + 1) - fi r := rfl
      have hstep : ∀ A, sm (r + 1) (fun z => d_q ty rk rs fi al rw_ c a b z A) = sm r (fun z => d_q ty rk rs fi al rw_ c a b z A) + d_q ty rk rs fi al rw_ c a b r A := fun A => rfl
      rw [if_neg (by rw [i_le (by omega) (by omega)]; exact h), q_lengthOf hR hD hr, bind_some, hw.1, nI_1]
      by_cases hl : grl fi r ≤ ln
      · rw [if_neg (by rw [i_lt (by omega) (by omega)]; omega)]
        have hr0 := hro r (by omega) hl
        rw [if_neg (Nat.lt_irrefl r)] at hr0
        obtain ⟨w, ways1, f1, f2, f3⟩ := q_stretchL99 (n := n) (c := c) hn hm hd hR hD hW hw hr hl hab hb hc many hmany n 0 ways (Nat.zero_le _) (Nat.zero_le _) (by omega) (fun k hk2 m hm2 => by
          rw [hr0 k hk2 m hm2]
          congr 1
          by_cases z : k = 0 ∨ m < b
          · rw [if_pos z, if_pos (z.elim Or.inl (fun y => Or.inr (Or.inl y)))]
          · rw [if_neg z, if_neg (fun y => z (y.elim Or.inl (fun x => x.elim Or.inr (fun t => Or.inl (by omega)))))])
        have f1' : f_Ref_stretch_L99 n (nI (grl fi r)) (nI r) (nI a) (nI b) D_types D_sortOf D_starts D_told D_row many n (1 : Int32) ways = some (w, ways1) := f1
        rw [f1', bind_some]
        have hro1 : ∀ z, z < u → grl fi z ≤ ln → if z < r + 1 then d_row1 ty rk fi al rw_ c ln a b z ways1 else d_row ty rk fi al rw_ c ln a b z ways1 := by
          intro z hz hl2
          by_cases e : z = r
          · subst e
            rw [if_pos (Nat.lt_succ_self z)]
            exact f2
          · have fr := d_row_frame (a := a) hR h59 hr (show z < cl by omega) e hb f3
            have := hro z hz hl2
            by_cases y : z < r
            · rw [if_pos y] at this
              rw [if_pos (by omega)]
              intro k hk2 m hm2
              rw [fr k hk2 m hm2]; exact this k hk2 m hm2
            · rw [if_neg y] at this
              rw [if_neg (by omega)]
              intro k hk2 m hm2
              rw [fr k hk2 m hm2]; exact this k hk2 m hm2
        obtain ⟨s1, s2', s3, s4⟩ := q_sortOfMakes hm hd hR hD hr
        have hst : D_starts r = nI (fi r) := hD.2.2.2.2.1 r (by omega)
        have hto : D_told (fi r) = nI (al (fi r)) := hD.2.2.2.2.2 (fi r) (by omega)
        have hal : al (fi r) < sz := hR.2.2.2.2.2.2.2.2.1 (fi r) (by omega)
        have hga : gra fi al r 0 = al (fi r) := rfl
        have hlt := d_wx_lt hR hr (Nat.le_refl (grl fi r)) (show b < 60 by omega)
        /- the rule counts -/
        have add : ¬ (grl fi r = 1 ∧ gvt ty rk (gra fi al r 0) ≠ none) → ∃ w' ways' base', (x_g (nI r) 1500 (x_g (D_makes (nI r).toNatClampNeg) 1000 (x_g (D_sortOf (D_makes (nI r).toNatClampNeg).toNatClampNeg) 100 (x_g (nI r) 1501 (x_g (((60 : Int32) * (((D_starts (nI r).toNatClampNeg) + nI r) + nI (grl fi r))) + nI b) 1890100 ((f_Ref_capped n ((base (D_sortOf (D_makes (nI r).toNatClampNeg).toNatClampNeg).toNatClampNeg) + (ways1 (((60 : Int32) * (((D_starts (nI r).toNatClampNeg) + nI r) + nI (grl fi r))) + nI b).toNatClampNeg))).bind fun x24 => (x_g (D_sortOf (D_makes (nI r).toNatClampNeg).toNatClampNeg) 100 (f_Ref_stretch_L73 n (nI a) (nI b) (nI u) D_length D_types D_sortOf D_makes D_starts D_told D_row many k (nI (r + 1)) ways1 (upd base (D_sortOf (D_makes (nI r).toNatClampNeg).toNatClampNeg).toNatClampNeg x24))))))))) = some (w', ways', base') ∧ (∀ z, z < u → grl fi z ≤ ln → d_row1 ty rk fi al rw_ c ln a b z ways') ∧ (∀ A, A < so → base' A = nI (s2 (v A + sm u (fun z => d_q ty rk rs fi al rw_ c a b z A)))) := by
          intro hnu
          have hway : ways1 (d_wx fi r (grl fi r) b) = nI (s2 (g_wy rw_ (gvt ty rk) (gra fi al) c r (grl fi r) a b)) := by
            rw [f2 (grl fi r) (Nat.le_refl _) b hb, if_pos (Or.inr (Or.inr ⟨rfl, hnu⟩))]
          have hdq : d_q ty rk rs fi al rw_ c a b r (grs rk rs r) = g_wy rw_ (gvt ty rk) (gra fi al) c r (grl fi r) a b := by
            unfold d_q
            rw [if_pos rfl]
            by_cases e1 : grl fi r = 1
            · have hv : gvt ty rk (gra fi al r 0) = none := Classical.byContradiction (fun x => hnu ⟨e1, x⟩)
              rw [if_pos e1, e1, g_wy_1 hab]
              unfold g_sp
              rw [hv]
              by_cases y : b = a + 1 ∧ rw_ a = gra fi al r 0
              · rw [if_pos ⟨rfl, y⟩]; exact (if_pos y).symm
              · rw [if_neg (fun x => y x.2)]; exact (if_neg y).symm
            · rw [if_neg e1]
          rw [x_gI (by omega) (by decide), nI_clamp (by omega), s1, x_gI (by omega) (by decide), nI_clamp (by omega), s3, x_gI (by omega) (by decide), x_gI (by omega) (by decide), nI_clamp (by omega), hst, d_wxI, x_gI hlt (by decide), nI_clamp (by omega), hway, hba _ s4, i_add, q_capped (by have := s2_le (g_wy rw_ (gvt ty rk) (gra fi al) c r (grl fi r) a b); have := s2_le (v (grs rk rs r) + sm r (fun z => d_q ty rk rs fi al rw_ c a b z (grs rk rs r))); omega), bind_some, x_gI (by omega) (by decide)]
          refine ih (r + 1) ways1 _ (by omega) (by omega) hro1 (fun A hA => ?_)
          by_cases z : A = grs rk rs r
          · rw [z, pk_us, ← s2_add, hstep, hdq, Nat.add_assoc]
          · rw [pk_un z, hba A hA, hstep]
            have : d_q ty rk rs fi al rw_ c a b r A = 0 := if_neg (fun y => z y.symm)
            rw [this, Nat.add_zero]
        have skip : (grl fi r = 1 ∧ gvt ty rk (gra fi al r 0) ≠ none) → ∃ w' ways' base', f_Ref_stretch_L73 n (nI a) (nI b) (nI u) D_length D_types D_sortOf D_makes D_starts D_told D_row many k (nI (r + 1)) ways1 base = some (w', ways', base') ∧ (∀ z, z < u → grl fi z ≤ ln → d_row1 ty rk fi al rw_ c ln a b z ways') ∧ (∀ A, A < so → base' A = nI (s2 (v A + sm u (fun z => d_q ty rk rs fi al rw_ c a b z A)))) := by
          intro hun
          refine ih (r + 1) ways1 base (by omega) (by omega) hro1 (fun A hA => ?_)
          rw [hba A hA, hstep]
          have : d_q ty rk rs fi al rw_ c a b r A = 0 := by
            unfold d_q
            by_cases y : grs rk rs r = A
            · rw [if_pos y, if_pos hun.1, if_neg (fun x => hun.2 x.1)]
            · rw [if_neg y]
          rw [this, Nat.add_zero]
        by_cases e1 : grl fi r = 1
        · rw [if_pos (by rw [e1]; rfl), x_gI (by omega) (by decide), nI_clamp (by omega), hst, x_gI (by omega) (by decide), nI_clamp (by omega), hto, x_gI (by omega) (by decide), nI_clamp (by omega), hd.2.2.1 _ hal]
          by_cases hv : ty (al (fi r)) = none
          · rw [if_pos ((hm.ty_m1 hal).mpr hv), if_pos rfl]
            have := add (fun y => y.2 ((gvt_none hm hal).mpr hv))
            rw [hw.1, nI_clamp (by omega), hst] at this
            exact this
          · rw [if_neg (fun y => hv ((hm.ty_m1 hal).mp y)), if_neg (show ¬ (1 : Int32) = 0 by decide)]
            have := skip ⟨e1, fun y => hv ((gvt_none hm hal).mp y)⟩
            rw [hw.1] at this
            exact this
        · rw [if_neg (by rw [show (1 : Int32) = nI 1 from rfl, i_eq (by decide) (by omega)]; exact e1), if_pos rfl]
          have := add (fun y => e1 y.1)
          rw [hw.1] at this
          exact this
      · rw [if_pos (by rw [i_lt (by omega) (by omega)]; omega)]
        have hro1 : ∀ z, z < u → grl fi z ≤ ln → if z < r + 1 then d_row1 ty rk fi al rw_ c ln a b z ways else d_row ty rk fi al rw_ c ln a b z ways := by
          intro z hz hl2
          have := hro z hz hl2
          by_cases y : z < r
          · rw [if_pos y] at this
            rw [if_pos (by omega)]; exact this
          · rw [if_neg y] at this
            have : z ≠ r := fun e => hl (e ▸ hl2)
            rw [if_neg (by omega)]; assumption
        have := ih (r + 1) ways base (by omega) (by omega) hro1 (fun A hA => by
          rw [hba A hA, hstep]
          have : d_q ty rk rs fi al rw_ c a b r A = 0 := by
            unfold d_q
            by_cases y : grs rk rs r = A
            · rw [if_pos y, if_neg (by omega), g_wy_0 (by omega)]
            · rw [if_neg y]
          rw [this, Nat.add_zero])
        rw [hw.1] at this
        exact this
end RS
