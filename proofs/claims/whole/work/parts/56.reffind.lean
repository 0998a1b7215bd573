/-! The reference: one stretch, then all -/
section RF
variable {n sz so : Nat} {ty rk : Nat → Option Nat} {cl us : Nat} {op : Bool} {rs fi al : Nat → Nat} {D_symbols D_sorts : Int32} {D_types D_sortOf : Nat → Int32} {D_rules D_isOpen D_all : Int32} {D_makes D_starts D_told : Nat → Int32} {ln : Nat} {rw_ : Nat → Nat} {D_length : Int32} {D_row : Nat → Int32} {u : Nat} {a b : Nat}
theorem q_stretchL3 (hso : so ≤ 100) : ∀ (k v : Nat) (base : Nat → Int32), v ≤ so → so - v < k →
    ∃ w base', f_Ref_stretch_L3 n (nI so) k (nI v) base = some (w, base') ∧ (∀ A, v ≤ A → A < so → base' A = 0) ∧ (∀ A, A < v → base' A = base A) := by
  intro k
  induction k with
  | zero => intro v base _ h; exact absurd h (Nat.not_lt_zero _)
  | succ k ih =>
    intro v base hv hk
    rw [f_Ref_stretch_L3]
    by_cases h : so ≤ v
    · rw [if_pos (by rw [i_le (by omega) (by omega)]; exact h)]
      exact ⟨_, _, rfl, fun A h1 h2 => by omega, fun _ _ => rfl⟩
    · rw [if_neg (by rw [i_le (by omega) (by omega)]; exact h), x_gI (by omega) (by decide), nI_clamp (by omega), nI_1]
      obtain ⟨w, base', g1, g2, g3⟩ := ih (v + 1) (upd base v 0) (by omega) (by omega)
      refine ⟨w, base', g1, fun A h1 h2 => ?_, fun A hA => ?_⟩
      · by_cases z : A = v
        · subst z
          rw [g3 A (by omega), pk_us]
        · exact g2 A (by omega) h2
      · rw [g3 A (by omega), pk_un (by omega)]
theorem q_stretchL240 (hm : m_S sz so ty rk) (hd : d_S sz so ty rk D_symbols D_sorts D_types D_sortOf) (hR : m_R sz ty rk cl us op rs fi al) (hD : d_R cl us op rs fi al D_rules D_isOpen D_all D_makes D_starts D_told) (hW : m_W sz ln rw_) (hw : a_W ln rw_ D_length D_row) (hu : u ≤ cl) {c : Nat → Nat → Nat → Nat} (hab : a < b) (hb : b ≤ ln) (hc : ∀ A k l, k < l → c A k l ≤ 2) (many : Nat → Int32) (hmany : ∀ A, A < so → many (d_ix A a b) = nI (c A a b)) :
    ∀ (k r : Nat) (ways : Nat → Int32), r ≤ u → u - r < k → (∀ z, z < u → grl fi z ≤ ln → if z < r then d_row ty rk fi al rw_ c ln a (b + 1) z ways else d_row1 ty rk fi al rw_ c ln a b z ways) →
    ∃ w ways', f_Ref_stretch_L240 n (nI a) (nI b) (nI u) D_length D_types D_sortOf D_starts D_told many k (nI r) ways = some (w, ways') ∧ (∀ z, z < u → grl fi z ≤ ln → d_row ty rk fi al rw_ c ln a (b + 1) z ways') := by
  have h59 := hW.1
  have hcl := hR.1
  have hus := hR.2.1
  have hsz := hm.1
  have hso := hm.2.1
  have same : ∀ (z : Nat) (ways : Nat → Int32), gvt ty rk (gra fi al z 0) = none → d_row1 ty rk fi al rw_ c ln a b z ways → d_row ty rk fi al rw_ c ln a (b + 1) z ways := by
    intro z ways hv h k hk m hm2
    rw [h k hk m hm2]
    congr 1
    by_cases y : k = 0 ∨ m < b + 1
    · rw [if_pos y, if_pos (by
        rcases y with y | y
        · exact Or.inl y
        · rcases Nat.lt_or_ge m b with x | x
          · exact Or.inr (Or.inl x)
          · exact Or.inr (Or.inr ⟨by omega, fun t => t.2 hv⟩))]
    · rw [if_neg y, if_neg (fun x => y (x.elim Or.inl (fun t => Or.inr (t.elim (fun s => by omega) (fun s => by omega)))))]
  intro k
  induction k with
  | zero => intro r ways _ h; exact absurd h (Nat.not_lt_zero _)
  | succ k ih =>
    intro r ways hru hk hro
    rw [f_Ref_stretch_L240]
    by_cases h : u ≤ r
    · have e : r = u := by omega
      subst e
      rw [if_pos (by rw [i_le (by omega) (by omega)]; exact h)]
      refine ⟨_, _, rfl, fun z hz hl => ?_⟩
      have := hro z hz hl
      rw [if_pos hz] at this
      exact this
    · have hr : r < cl := by omega
      have h1 := m_fi_us hR hr
      have h299 := (hR.2.2.2.1 r hr).2
      have hgl : grl fi r = fi (r + 1) - fi r := rfl
      have hst : D_starts r = nI (fi r) := hD.2.2.2.2.1 r (by omega)
      have hto : D_told (fi r) = nI (al (fi r)) := hD.2.2.2.2.2 (fi r) (by omega)
      have hal : al (fi r) < sz := hR.2.2.2.2.2.2.2.2.1 (fi r) (by omega)
      have nxt : (grl fi r ≤ ln → gvt ty rk (gra fi al r 0) = none) → ∃ w ways', f_Ref_stretch_L240 n (nI a) (nI b) (nI u) D_length D_types D_sortOf D_starts D_told many k (nI (r + 1)) ways = some (w, ways') ∧ (∀ z, z < u → grl fi z ≤ ln → d_row ty rk fi al rw_ c ln a (b + 1) z ways') := by
        intro hv
        refine ih (r + 1) ways (by omega) (by omega) (fun z hz hl => ?_)
        have := hro z hz hl
        by_cases e : z = r
        · subst e
          rw [if_neg (Nat.lt_irrefl z)] at this
          rw [if_pos (Nat.lt_succ_self z)]
          exact same z ways (hv hl) this
        · by_cases y : z < r
          · rw [if_pos y] at this
            rw [if_pos (by omega)]; exact this
          · rw [if_neg y] at this
            rw [if_neg (by omega)]; exact this
      rw [if_neg (by rw [i_le (by omega) (by omega)]; exact h)]
      simp only [nI_clamp (show r < 2 ^ 31 by omega), hst, nI_clamp (show fi r < 2 ^ 31 by omega), hto, nI_clamp (show al (fi r) < 2 ^ 31 by omega), nI_1]
      rw [x_gI (by omega) (by decide), x_gI (by omega) (by decide), x_gI (by omega) (by decide), hd.2.2.1 _ hal]
      cases hv2 : gvt ty rk (al (fi r)) with
      | none =>
        rw [if_pos ((hm.ty_m1 hal).mpr ((gvt_none hm hal).mp hv2))]
        exact nxt (fun _ => hv2)
      | some B =>
        have hB := gvt_lt hm hv2
        have hne2 : ¬ ty (al (fi r)) = none := fun y => by
          rw [(gvt_none hm hal).mpr y] at hv2
          cases hv2
        rw [if_neg (fun y => hne2 ((hm.ty_m1 hal).mp y)), q_lengthOf hR hD hr, bind_some]
        by_cases hl : grl fi r ≤ ln
        · rw [if_neg (by rw [hw.1, i_lt (by omega) (by omega)]; omega), x_gI (by omega) (by decide), q_treesOf hm hd hal hv2 (by omega) (by omega), bind_some, hmany B hB, q_nar8 (hc B a b hab)]
          have hwI : ((60 : Int32) * ((nI (fi r) + nI r) + (1 : Int32))) + nI b = nI (d_wx fi r 1 b) := d_wxI fi r 1 b
          have hlt := d_wx_lt hR hr (show 1 ≤ grl fi r by omega) (show b < 60 by omega)
          rw [hwI, x_gI hlt (by decide), nI_clamp (by omega)]
          refine ih (r + 1) _ (by omega) (by omega) (fun z hz hl2 => ?_)
          have hz0 := hro z hz hl2
          by_cases e : z = r
          · subst e
            rw [if_neg (Nat.lt_irrefl z)] at hz0
            rw [if_pos (Nat.lt_succ_self z)]
            intro k hk2 m hm2
            by_cases y : k = 1 ∧ m = b
            · obtain ⟨y1, y2⟩ := y
              subst y1
              subst y2
              rw [pk_us, if_pos (Or.inr (Nat.lt_succ_self m)), g_wy_1 hab]
              unfold g_sp
              have : gvt ty rk (gra fi al z 0) = some B := hv2
              rw [this]
              show _ = nI (s2 (if a < m then c B a m else 0))
              rw [if_pos hab, s2_id (hc B a m hab)]
            · rw [pk_un (fun e2 => y (d_wx_inj hR hr hr hk2 (show 1 ≤ grl fi z by omega) (show m < 60 by omega) (show b < 60 by omega) e2).2), hz0 k hk2 m hm2]
              congr 1
              by_cases x : k = 0 ∨ m < b + 1
              · rw [if_pos x, if_pos (by
                  rcases x with x | x
                  · exact Or.inl x
                  · rcases Nat.lt_or_ge m b with t | t
                    · exact Or.inr (Or.inl t)
                    · exact Or.inr (Or.inr ⟨by omega, fun s => y ⟨s.1, by omega⟩⟩))]
              · rw [if_neg x, if_neg (fun t => x (t.elim Or.inl (fun s => Or.inr (s.elim (fun s => by omega) (fun s => by omega)))))]
          · have fr : ∀ k, k ≤ grl fi z → ∀ m, m ≤ ln → upd ways (d_wx fi r 1 b) (nI (c B a b)) (d_wx fi z k m) = ways (d_wx fi z k m) := fun k hk2 m hm2 => pk_un (fun e2 => e (d_wx_inj hR (show z < cl by omega) hr hk2 (show 1 ≤ grl fi r by omega) (show m < 60 by omega) (show b < 60 by omega) e2).1)
            by_cases y : z < r
            · rw [if_pos y] at hz0
              rw [if_pos (by omega)]
              intro k hk2 m hm2
              rw [fr k hk2 m hm2]; exact hz0 k hk2 m hm2
            · rw [if_neg y] at hz0
              rw [if_neg (by omega)]
              intro k hk2 m hm2
              rw [fr k hk2 m hm2]; exact hz0 k hk2 m hm2
        · rw [if_pos (by rw [hw.1, i_lt (by omega) (by omega)]; omega)]
          exact nxt (fun y => absurd y hl)
theorem q_stretch (hn : 40000 ≤ n) (hm : m_S sz so ty rk) (hd : d_S sz so ty rk D_symbols D_sorts D_types D_sortOf) (hR : m_R sz ty rk cl us op rs fi al) (hD : d_R cl us op rs fi al D_rules D_isOpen D_all D_makes D_starts D_told) (hW : m_W sz ln rw_) (hw : a_W ln rw_ D_length D_row) (hu : u ≤ cl) (hab : a < b) (hb : b ≤ ln) (many ways base next : Nat → Int32)
    (hmany : ∀ A, A < so → ∀ m, a < m → m < b → many (d_ix A m b) = nI (m_C ty rk rs fi al rw_ u A m b)) (hro : ∀ z, z < u → grl fi z ≤ ln → d_row ty rk fi al rw_ (m_C ty rk rs fi al rw_ u) ln a b z ways) :
    ∃ many' ways' base' next', f_Ref_stretch n D_sorts D_length D_types D_sortOf D_makes D_starts D_told D_row many ways base next (nI a) (nI b) (nI u) = some (many', ways', base', next') ∧ (∀ A, A < so → many' (d_ix A a b) = nI (m_C ty rk rs fi al rw_ u A a b)) ∧ (∀ p, (∀ A, A < so → p ≠ d_ix A a b) → many' p = many p) ∧ (∀ z, z < u → grl fi z ≤ ln → d_row ty rk fi al rw_ (m_C ty rk rs fi al rw_ u) ln a (b + 1) z ways') := by
  have h59 := hW.1
  have hso := hm.2.1
  have hsz := hm.1
  have hcl := hR.1
  have hc : ∀ A k l, k < l → m_C ty rk rs fi al rw_ u A k l ≤ 2 := fun A k l h => m_C_2 h
  obtain ⟨w0, base0, z1, z2, -⟩ := q_stretchL3 (n := n) hso n 0 base (Nat.zero_le _) (by omega)
  have z1' : f_Ref_stretch_L3 n D_sorts n 0 base = some (w0, base0) := by rw [hd.2.1]; exact z1
  have main : ∀ base1 : Nat → Int32, (∀ A, A < so → base1 A = nI (if b = a + 1 ∧ gvt ty rk (rw_ a) = some A then 1 else 0)) →
      ∃ many' ways' base' next', ((f_Ref_stretch_L73 n (nI a) (nI b) (nI u) D_length D_types D_sortOf D_makes D_starts D_told D_row many n 0 ways base1).bind fun x9 => ((f_Ref_unite n D_sorts D_types D_sortOf D_makes D_starts D_told many x9.2.2 next (nI a) (nI b) (nI u)).bind fun x10 => ((f_Ref_stretch_L240 n (nI a) (nI b) (nI u) D_length D_types D_sortOf D_starts D_told x10.1 n 0 x9.2.1).bind fun x11 => (some (x10.1, x11.2, x9.2.2, x10.2))))) = some (many', ways', base', next') ∧ (∀ A, A < so → many' (d_ix A a b) = nI (m_C ty rk rs fi al rw_ u A a b)) ∧ (∀ p, (∀ A, A < so → p ≠ d_ix A a b) → many' p = many p) ∧ (∀ z, z < u → grl fi z ≤ ln → d_row ty rk fi al rw_ (m_C ty rk rs fi al rw_ u) ln a (b + 1) z ways') := by
    intro base1 hb1
    obtain ⟨w1, ways1, base2, f1, f2, f3⟩ := q_stretchL73 (n := n) (c := m_C ty rk rs fi al rw_ u) hn hm hd hR hD hW hw hu hab hb hc many hmany (fun A => if b = a + 1 ∧ gvt ty rk (rw_ a) = some A then 1 else 0) n 0 ways base1 (Nat.zero_le _) (by omega) (fun z hz hl => by rw [if_neg (Nat.not_lt_zero z)]; exact hro z hz hl) (fun A hA => by
      rw [hb1 A hA]
      congr 1
      show _ = s2 ((if b = a + 1 ∧ gvt ty rk (rw_ a) = some A then 1 else 0) + 0)
      refine (s2_id ?_).symm
      split <;> omega)
    have f3' : ∀ A, A < so → base2 A = nI (s2 (g_b rw_ (gvt ty rk) (grs rk rs) (grl fi) (gra fi al) u (m_C ty rk rs fi al rw_ u) A a b)) := fun A hA => by
      rw [f3 A hA]
      rfl
    obtain ⟨many1, next1, g1, g2, g3⟩ := q_unite (n := n) (rw_ := rw_) hn hm hd hR hD hu hab (by omega) f3' many next
    obtain ⟨w3, ways3, k1, k2⟩ := q_stretchL240 (n := n) (c := m_C ty rk rs fi al rw_ u) hm hd hR hD hW hw hu hab hb hc many1 g2 n 0 ways1 (Nat.zero_le _) (by omega) (fun z hz hl => by rw [if_neg (Nat.not_lt_zero z)]; exact f2 z hz hl)
    have f1' : f_Ref_stretch_L73 n (nI a) (nI b) (nI u) D_length D_types D_sortOf D_makes D_starts D_told D_row many n 0 ways base1 = some (w1, ways1, base2) := f1
    have k1' : f_Ref_stretch_L240 n (nI a) (nI b) (nI u) D_length D_types D_sortOf D_starts D_told many1 n 0 ways1 = some (w3, ways3) := k1
    refine ⟨many1, ways3, base2, next1, ?_, g2, g3, k2⟩
    rw [f1', bind_some, g1, bind_some, k1', bind_some]
  have hrow := hW.2 a (by omega)
  unfold f_Ref_stretch
  rw [z1', bind_some, x_gI (by omega) (by decide), nI_clamp (by omega), hw.2 a (by omega), nI_1, nI_clamp (by omega)]
  by_cases hone : b = a + 1
  · rw [if_pos (by rw [hone]), x_gI (by omega) (by decide), hd.2.2.1 _ hrow]
    cases hv : gvt ty rk (rw_ a) with
    | none =>
      rw [if_pos ((hm.ty_m1 hrow).mpr ((gvt_none hm hrow).mp hv))]
      refine main base0 (fun A hA => ?_)
      rw [z2 A (Nat.zero_le _) hA, if_neg (fun y => by rw [hv] at y; cases y.2)]
      rfl
    | some B =>
      have hB := gvt_lt hm hv
      obtain ⟨t, t1, t2⟩ := gvt_some hv
      have t3 := (hm.2.2.1 _ hrow t t1).1
      rw [if_neg (by rw [t1, oI_some, i_m1 (by omega)]; exact id), x_gI (by omega) (by decide), t1, oI_some, x_gI (by omega) (by decide), nI_clamp (by omega), hd.2.2.2 t (by omega), t2, oI_some, x_gI (by omega) (by decide), nI_clamp (by omega)]
      refine main _ (fun A hA => ?_)
      by_cases z : A = B
      · rw [z, pk_us, if_pos ⟨hone, hv⟩]; rfl
      · rw [pk_un z]
        show base0 A = _
        rw [z2 A (Nat.zero_le _) hA, if_neg (fun y => z (by rw [hv] at y; exact (Option.some.inj y.2).symm))]
        rfl
  · rw [if_neg (by rw [i_eq (by omega) (by omega)]; exact hone)]
    refine main base0 (fun A hA => ?_)
    rw [z2 A (Nat.zero_le _) hA, if_neg (fun y => hone y.1)]
    rfl
end RF
