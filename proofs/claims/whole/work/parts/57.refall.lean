/-! The reference: find, part, trees -/
section RG
variable {n sz so : Nat} {ty rk : Nat → Option Nat} {cl us : Nat} {op : Bool} {rs fi al : Nat → Nat} {D_symbols D_sorts : Int32} {D_types D_sortOf : Nat → Int32} {D_rules D_isOpen D_all : Int32} {D_makes D_starts D_told : Nat → Int32} {ln : Nat} {rw_ : Nat → Nat} {D_length : Int32} {D_row : Nat → Int32} {u : Nat} {a : Nat}
theorem q_findL93 (hR : m_R sz ty rk cl us op rs fi al) (hD : d_R cl us op rs fi al D_rules D_isOpen D_all D_makes D_starts D_told) (h59 : ln ≤ 59) {r q : Nat} (hr : r < cl) (hq : q ≤ grl fi r) (ha : a ≤ 59) : ∀ (k v : Nat) (ways : Nat → Int32), v ≤ ln + 1 → ln + 1 - v < k →
    ∃ w ways', f_Ref_find_L93 n (nI q) (nI r) (nI a) (nI ln) D_starts k (nI v) ways = some (w, ways') ∧ (∀ m, v ≤ m → m ≤ ln → ways' (d_wx fi r q m) = nI (if q = 0 ∧ m = a then 1 else 0)) ∧ (∀ p, (∀ m, m ≤ ln → p ≠ d_wx fi r q m) → ways' p = ways p) ∧ (∀ m, m < v → m ≤ ln → ways' (d_wx fi r q m) = ways (d_wx fi r q m)) := by
  have hcl := hR.1
  have h1 := m_fi_us hR hr
  have h299 := (hR.2.2.2.1 r hr).2
  have hgl : grl fi r = fi (r + 1) - fi r := rfl
  have hst : D_starts r = nI (fi r) := hD.2.2.2.2.1 r (by omega)
  intro k
  induction k with
  | zero => intro v ways _ h; exact absurd h (Nat.not_lt_zero _)
  | succ k ih =>
    intro v ways hv hk
    rw [f_Ref_find_L93]
    by_cases h : ln < v
    · rw [if_pos (by rw [i_lt (by omega) (by omega)]; exact h)]
      exact ⟨_, _, rfl, fun m h1 h2 => by omega, fun _ _ => rfl, fun _ _ _ => rfl⟩
    · have hlt := d_wx_lt hR hr hq (show v < 60 by omega)
      have hcd : (nI (d_wx fi r q v)).toNatClampNeg = d_wx fi r q v := nI_clamp (by omega)
      have go : ∀ x : Nat, x = (if q = 0 ∧ v = a then 1 else 0) → ∃ w ways', f_Ref_find_L93 n (nI q) (nI r) (nI a) (nI ln) D_starts k (nI (v + 1)) (upd ways (d_wx fi r q v) (nI x)) = some (w, ways') ∧ (∀ m, v ≤ m → m ≤ ln → ways' (d_wx fi r q m) = nI (if q = 0 ∧ m = a then 1 else 0)) ∧ (∀ p, (∀ m, m ≤ ln → p ≠ d_wx fi r q m) → ways' p = ways p) ∧ (∀ m, m < v → m ≤ ln → ways' (d_wx fi r q m) = ways (d_wx fi r q m)) := by
        intro x hx
        obtain ⟨w, ways', g1, g2, g3, g4⟩ := ih (v + 1) (upd ways (d_wx fi r q v) (nI x)) (by omega) (by omega)
        refine ⟨w, ways', g1, fun m h1 h2 => ?_, fun p hp => ?_, fun m h1 h2 => ?_⟩
        · by_cases z : m = v
          · subst z
            rw [g4 m (by omega) h2, pk_us, hx]
          · exact g2 m (by omega) h2
        · rw [g3 p hp, pk_un (hp v (by omega))]
        · rw [g4 m (by omega) h2, pk_un (fun e => by have := (d_wx_inj hR hr hr hq hq (show m < 60 by omega) (show v < 60 by omega) e).2.2; omega)]
      have gg : ∀ {α : Type} (z : Option α), x_g (nI (d_wx fi r q v)) 1890100 z = z := fun z => x_gI hlt (by decide)
      have e1 : vp_nar .byte ((1 : Int32).toInt8.toInt32) = nI 1 := q_nar8 (x := 1) (by omega)
      have e0 : vp_nar .byte ((0 : Int32).toInt8.toInt32) = nI 0 := q_nar8 (x := 0) (by omega)
      rw [if_neg (by rw [i_lt (by omega) (by omega)]; exact h), x_gI (by omega) (by decide)]
      simp only [nI_clamp (show r < 2 ^ 31 by omega), hst, d_wxI, gg, hcd, e1, e0, nI_1]
      by_cases hq0 : q = 0
      · rw [if_pos (by rw [hq0]; rfl)]
        by_cases hva : v = a
        · rw [if_pos (by rw [hva])]
          exact go 1 (if_pos ⟨hq0, hva⟩).symm
        · rw [if_neg (by rw [i_eq (by omega) (by omega)]; exact hva)]
          exact go 0 (if_neg (fun y => hva y.2)).symm
      · rw [if_neg (by rw [i_eq0 (by omega)]; exact hq0)]
        exact go 0 (if_neg (fun y => hq0 y.1)).symm
theorem q_findL74 (hn : 40000 ≤ n) (hR : m_R sz ty rk cl us op rs fi al) (hD : d_R cl us op rs fi al D_rules D_isOpen D_all D_makes D_starts D_told) (h59 : ln ≤ 59) {r : Nat} (hr : r < cl) (ha : a ≤ 59) : ∀ (k q : Nat) (ways : Nat → Int32), q ≤ grl fi r + 1 → grl fi r + 1 - q < k →
    ∃ w ways', f_Ref_find_L74 n (nI (grl fi r)) (nI r) (nI a) (nI ln) D_starts k (nI q) ways = some (w, ways') ∧ (grl fi r ≤ ln → ∀ z, q ≤ z → z ≤ grl fi r → ∀ m, m ≤ ln → ways' (d_wx fi r z m) = nI (if z = 0 ∧ m = a then 1 else 0)) ∧ (∀ p, (∀ z, q ≤ z → z ≤ grl fi r → ∀ m, m ≤ ln → p ≠ d_wx fi r z m) → ways' p = ways p) := by
  have hcl := hR.1
  have h1 := m_fi_us hR hr
  have h299 := (hR.2.2.2.1 r hr).2
  have hgl : grl fi r = fi (r + 1) - fi r := rfl
  intro k
  induction k with
  | zero => intro q ways _ h; exact absurd h (Nat.not_lt_zero _)
  | succ k ih =>
    intro q ways hq hk
    rw [f_Ref_find_L74]
    by_cases h : grl fi r < q
    · rw [if_pos (by rw [i_lt (by omega) (by omega)]; exact h)]
      exact ⟨_, _, rfl, fun _ z h1 h2 => by omega, fun _ _ => rfl⟩
    · rw [if_neg (by rw [i_lt (by omega) (by omega)]; exact h)]
      by_cases hl : ln < grl fi r
      · rw [if_pos (by rw [i_lt (by omega) (by omega)]; exact hl)]
        exact ⟨_, _, rfl, fun y => absurd y (by omega), fun _ _ => rfl⟩
      · rw [if_neg (by rw [i_lt (by omega) (by omega)]; exact hl)]
        obtain ⟨w1, ways1, f1, f2, f3, -⟩ := q_findL93 (n := n) hR hD h59 hr (show q ≤ grl fi r by omega) ha n 0 ways (Nat.zero_le _) (by omega)
        have f1' : f_Ref_find_L93 n (nI q) (nI r) (nI a) (nI ln) D_starts n 0 ways = some (w1, ways1) := f1
        rw [f1', bind_some, nI_1]
        obtain ⟨w, ways', g1, g2, g3⟩ := ih (q + 1) ways1 (by omega) (by omega)
        refine ⟨w, ways', g1, fun y z h1 h2 m hm2 => ?_, fun p hp => ?_⟩
        · by_cases e : z = q
          · subst e
            rw [g3 _ (fun z2 q1 q2 m2 hm3 e2 => by have := (d_wx_inj hR hr hr h2 q2 (show m < 60 by omega) (show m2 < 60 by omega) e2).2.1; omega)]
            exact f2 m (Nat.zero_le _) hm2
          · exact g2 y z (by omega) h2 m hm2
        · rw [g3 p (fun z h1 h2 m hm2 => hp z (by omega) h2 m hm2), f3 p (fun m hm2 => hp q (Nat.le_refl _) (by omega) m hm2)]
def d_init (fi : Nat → Nat) (ln a r : Nat) (ways : Nat → Int32) : Prop := ∀ k, k ≤ grl fi r → ∀ m, m ≤ ln → ways (d_wx fi r k m) = nI (if k = 0 ∧ m = a then 1 else 0)
theorem d_init_row {c : Nat → Nat → Nat → Nat} {r : Nat} {ways : Nat → Int32} (h : d_init fi ln a r ways) : d_row ty rk fi al rw_ c ln a (a + 1) r ways := by
  intro k hk m hm2
  rw [h k hk m hm2]
  congr 1
  by_cases z : k = 0
  · subst z
    rw [if_pos (Or.inl rfl)]
    show _ = s2 (if a = m then 1 else 0)
    by_cases y : m = a
    · rw [if_pos ⟨rfl, y⟩, if_pos y.symm]; rfl
    · rw [if_neg (fun x => y x.2), if_neg (fun x => y x.symm)]; rfl
  · rw [if_neg (fun x => z x.1)]
    by_cases y : m < a + 1
    · rw [if_pos (Or.inr y), g_wy_0 (by omega)]; rfl
    · rw [if_neg (fun x => x.elim z y)]
theorem q_findL57 (hn : 40000 ≤ n) (hR : m_R sz ty rk cl us op rs fi al) (hD : d_R cl us op rs fi al D_rules D_isOpen D_all D_makes D_starts D_told) (h59 : ln ≤ 59) (hu : u ≤ cl) (ha : a ≤ 59) : ∀ (k r : Nat) (ways : Nat → Int32), r ≤ u → u - r < k → (∀ z, z < r → grl fi z ≤ ln → d_init fi ln a z ways) →
    ∃ w ways', f_Ref_find_L57 n (nI a) (nI u) (nI ln) D_starts k (nI r) ways = some (w, ways') ∧ (∀ z, z < u → grl fi z ≤ ln → d_init fi ln a z ways') := by
  have hcl := hR.1
  intro k
  induction k with
  | zero => intro r ways _ h; exact absurd h (Nat.not_lt_zero _)
  | succ k ih =>
    intro r ways hr hk hin
    rw [f_Ref_find_L57]
    by_cases h : u ≤ r
    · have e : r = u := by omega
      subst e
      rw [if_pos (by rw [i_le (by omega) (by omega)]; exact h)]
      exact ⟨_, _, rfl, hin⟩
    · have hrc : r < cl := by omega
      have h299 := (hR.2.2.2.1 r hrc).2
      have hgl : grl fi r = fi (r + 1) - fi r := rfl
      rw [if_neg (by rw [i_le (by omega) (by omega)]; exact h), q_lengthOf hR hD hrc, bind_some]
      obtain ⟨w1, ways1, f1, f2, f3⟩ := q_findL74 (n := n) (ln := ln) hn hR hD h59 hrc ha n 0 ways (Nat.zero_le _) (by omega)
      have f1' : f_Ref_find_L74 n (nI (grl fi r)) (nI r) (nI a) (nI ln) D_starts n 0 ways = some (w1, ways1) := f1
      rw [f1', bind_some, nI_1]
      refine ih (r + 1) ways1 (by omega) (by omega) (fun z hz hl k hk2 m hm2 => ?_)
      by_cases e : z = r
      · subst e
        exact f2 hl k (Nat.zero_le _) hk2 m hm2
      · rw [f3 _ (fun z2 _ q2 m2 hm3 e2 => by have := (d_wx_inj hR (show z < cl by omega) hrc hk2 q2 (show m < 60 by omega) (show m2 < 60 by omega) e2).1; omega)]
        exact hin z (by omega) hl k hk2 m hm2
/-- all counts of the starts from a on -/
def d_mok (C : Nat → Nat → Nat → Nat) (so ln a : Nat) (many : Nat → Int32) : Prop := ∀ A, A < so → ∀ i j, a ≤ i → i < j → j ≤ ln → many (d_ix A i j) = nI (C A i j)
theorem q_findL166 (hn : 40000 ≤ n) (hm : m_S sz so ty rk) (hd : d_S sz so ty rk D_symbols D_sorts D_types D_sortOf) (hR : m_R sz ty rk cl us op rs fi al) (hD : d_R cl us op rs fi al D_rules D_isOpen D_all D_makes D_starts D_told) (hW : m_W sz ln rw_) (hw : a_W ln rw_ D_length D_row) (hu : u ≤ cl) :
    ∀ (k b : Nat) (many ways base next : Nat → Int32), a < b → b ≤ ln + 1 → ln + 1 - b < k → d_mok (m_C ty rk rs fi al rw_ u) so ln (a + 1) many → (∀ A, A < so → ∀ j, a < j → j < b → many (d_ix A a j) = nI (m_C ty rk rs fi al rw_ u A a j)) → (∀ z, z < u → grl fi z ≤ ln → d_row ty rk fi al rw_ (m_C ty rk rs fi al rw_ u) ln a b z ways) →
    ∃ w many' ways' base' next', f_Ref_find_L166 n (nI a) (nI u) D_sorts D_length D_types D_sortOf D_makes D_starts D_told D_row k (nI b) many ways base next = some (w, many', ways', base', next') ∧ d_mok (m_C ty rk rs fi al rw_ u) so ln a many' := by
  have h59 := hW.1
  intro k
  induction k with
  | zero => intro b many ways base next _ _ h; exact absurd h (Nat.not_lt_zero _)
  | succ k ih =>
    intro b many ways base next hab hb hk hmo hdo hro
    rw [f_Ref_find_L166]
    by_cases h : ln < b
    · rw [if_pos (by rw [hw.1, i_lt (by omega) (by omega)]; exact h)]
      refine ⟨_, _, _, _, _, rfl, fun A hA i j h1 h2 h3 => ?_⟩
      by_cases z : i = a
      · rw [z]; exact hdo A hA j (by omega) (by omega)
      · exact hmo A hA i j (by omega) h2 h3
    · rw [if_neg (by rw [hw.1, i_lt (by omega) (by omega)]; exact h)]
      obtain ⟨many1, ways1, base1, next1, f1, f2, f3, f4⟩ := q_stretch (n := n) hn hm hd hR hD hW hw hu hab (show b ≤ ln by omega) many ways base next (fun A hA m h1 h2 => hmo A hA m b (by omega) h2 (by omega)) hro
      rw [f1, bind_some, nI_1]
      refine ih (b + 1) many1 ways1 base1 next1 (by omega) (by omega) (by omega) (fun A hA i j h1 h2 h3 => ?_) (fun A hA j h1 h2 => ?_) f4
      · rw [f3 _ (fun B hB e => by have := (d_ix_inj (show i < 60 by omega) (show j < 60 by omega) (show a < 60 by omega) (show b < 60 by omega) e).2.1; omega)]
        exact hmo A hA i j h1 h2 h3
      · by_cases z : j = b
        · rw [z]; exact f2 A hA
        · rw [f3 _ (fun B hB e => by have := (d_ix_inj (show a < 60 by omega) (show j < 60 by omega) (show a < 60 by omega) (show b < 60 by omega) e).2.2; omega)]
          exact hdo A hA j h1 (by omega)
theorem q_findL50 (hn : 40000 ≤ n) (hm : m_S sz so ty rk) (hd : d_S sz so ty rk D_symbols D_sorts D_types D_sortOf) (hR : m_R sz ty rk cl us op rs fi al) (hD : d_R cl us op rs fi al D_rules D_isOpen D_all D_makes D_starts D_told) (hW : m_W sz ln rw_) (hw : a_W ln rw_ D_length D_row) (hu : u ≤ cl) :
    ∀ (k m : Nat) (many ways base next : Nat → Int32), m ≤ ln → m < k → d_mok (m_C ty rk rs fi al rw_ u) so ln m many →
    ∃ w many' ways' base' next', f_Ref_find_L50 n (nI u) D_sorts D_length D_types D_sortOf D_makes D_starts D_told D_row k (nI m - (1 : Int32)) many ways base next = some (w, many', ways', base', next') ∧ d_mok (m_C ty rk rs fi al rw_ u) so ln 0 many' := by
  have h59 := hW.1
  have hcl := hR.1
  intro k
  induction k with
  | zero => intro m many ways base next _ h; exact absurd h (Nat.not_lt_zero _)
  | succ k ih =>
    intro m many ways base next hml hk hmo
    rw [f_Ref_find_L50]
    by_cases h : m = 0
    · subst h
      rw [if_pos (by decide)]
      exact ⟨_, _, _, _, _, rfl, hmo⟩
    · obtain ⟨s, rfl⟩ : ∃ s, m = s + 1 := ⟨m - 1, by omega⟩
      rw [i_back (by omega), Nat.add_sub_cancel, if_neg (nI_pos (by omega))]
      obtain ⟨w1, ways1, f1, f2⟩ := q_findL57 (n := n) (ln := ln) (a := s) hn hR hD h59 hu (by omega) n 0 ways (Nat.zero_le _) (by omega) (fun z hz => absurd hz (Nat.not_lt_zero _))
      have f1' : f_Ref_find_L57 n (nI s) (nI u) D_length D_starts n 0 ways = some (w1, ways1) := by rw [hw.1]; exact f1
      rw [f1', bind_some, nI_1]
      obtain ⟨w2, many2, ways2, base2, next2, g1, g2⟩ := q_findL166 (n := n) (a := s) hn hm hd hR hD hW hw hu n (s + 1) many ways1 base next (by omega) (by omega) (by omega) hmo (fun A _ j h1 h2 => by omega) (fun z hz hl => d_init_row (f2 z hz hl))
      rw [g1, bind_some]
      have e2 : nI s + (-1 : Int32) = nI s - (1 : Int32) := (Int32.sub_eq_add_neg _ _).symm
      rw [e2]
      exact ih s many2 ways2 base2 next2 (by omega) (by omega) g2
/-- how many rules a limit leaves -/
def m_u (cl : Nat) (p : Int32) : Nat := if p < 0 then 0 else if nI cl ≤ p then cl else p.toNatClampNeg
theorem m_u_le {cl : Nat} (hcl : cl ≤ 1500) (p : Int32) : m_u cl p ≤ cl := by
  unfold m_u
  rcases i_any p (show cl < 2 ^ 31 by omega) with h | h | ⟨j, hj, rfl⟩
  · rw [if_pos h]; exact Nat.zero_le _
  · by_cases z : p < 0
    · rw [if_pos z]; exact Nat.zero_le _
    · rw [if_neg z, if_pos h]; exact Nat.le_refl _
  · rw [if_neg (nI_pos (by omega)), if_neg (by rw [i_le (by omega) (by omega)]; omega), nI_clamp (by omega)]; omega
theorem p_below {cl : Nat} (hcl : cl ≤ 1500) (p : Int32) : f_Rules_below n (nI cl) p = some (nI (m_u cl p)) := by
  unfold f_Rules_below m_u
  congr 1
  have hc0 := nI_toInt (show cl < 2 ^ 31 by omega)
  rcases i_any p (show cl < 2 ^ 31 by omega) with h | h | ⟨j, hj, rfl⟩
  · have h' := h
    rw [Int32.lt_iff_toInt_lt] at h'
    have z0 : (0 : Int32).toInt = 0 := by decide
    rw [z0] at h'
    have e1 : ¬ nI cl < p := by rw [Int32.lt_iff_toInt_lt, hc0]; omega
    have e2 : ¬ (0 : Int32) < p := by rw [Int32.lt_iff_toInt_lt, z0]; omega
    rw [if_neg e1, if_neg e2, if_pos h]
    rfl
  · have h' := h
    rw [Int32.le_iff_toInt_le, hc0] at h'
    have z0 : (0 : Int32).toInt = 0 := by decide
    have e0 : ¬ p < 0 := by rw [Int32.lt_iff_toInt_lt, z0]; omega
    rw [if_neg e0, if_pos h]
    have key : (if nI cl < p then nI cl else p) = nI cl := by
      by_cases z : nI cl < p
      · rw [if_pos z]
      · rw [if_neg z]
        rw [Int32.lt_iff_toInt_lt, hc0] at z
        apply Int32.toInt_inj.mp
        rw [hc0]
        omega
    rw [key]
    by_cases z : cl = 0
    · rw [z, if_neg (by decide)]; rfl
    · rw [if_pos (by rw [i_0lt (by omega)]; omega)]
  · rw [if_neg (show ¬ nI cl < nI j by rw [i_lt (by omega) (by omega)]; omega), if_neg (show ¬ nI j < 0 from nI_pos (by omega)), if_neg (show ¬ nI cl ≤ nI j by rw [i_le (by omega) (by omega)]; omega), nI_clamp (by omega)]
    by_cases z : j = 0
    · rw [z, if_neg (by decide)]; rfl
    · rw [if_pos (by rw [i_0lt (by omega)]; omega)]
/-- what the reference keeps is right -/
def d_cache (ty rk : Nat → Option Nat) (rs fi al rw_ : Nat → Nat) (cl so ln : Nat) (D_isFound D_foundLimit : Int32) (D_many : Nat → Int32) : Prop := D_isFound ≠ 0 → ∃ w, w ≤ cl ∧ D_foundLimit = nI w ∧ d_mok (m_C ty rk rs fi al rw_ w) so ln 0 D_many
theorem q_find (hn : 40000 ≤ n) (hm : m_S sz so ty rk) (hd : d_S sz so ty rk D_symbols D_sorts D_types D_sortOf) (hR : m_R sz ty rk cl us op rs fi al) (hD : d_R cl us op rs fi al D_rules D_isOpen D_all D_makes D_starts D_told) (hW : m_W sz ln rw_) (hw : a_W ln rw_ D_length D_row) {D_isFound D_foundLimit : Int32} {many ways base next : Nat → Int32} (hca : d_cache ty rk rs fi al rw_ cl so ln D_isFound D_foundLimit many) {p : Int32} (hp : ¬ p < 0) :
    ∃ fd many' ways' base' next', f_Ref_find n D_sorts D_rules D_length D_isFound D_foundLimit D_types D_sortOf D_makes D_starts D_told D_row many ways base next p = some (fd, nI (m_u cl p), many', ways', base', next') ∧ fd ≠ 0 ∧ d_mok (m_C ty rk rs fi al rw_ (m_u cl p)) so ln 0 many' := by
  have h59 := hW.1
  have hcl := hR.1
  have hle := m_u_le hcl p
  have all : ∀ w, w ≤ cl → ∃ fd many' ways' base' next', (if D_isFound = 0 then ((f_Ref_find_L50 n (nI w) D_sorts D_length D_types D_sortOf D_makes D_starts D_told D_row n (D_length - (1 : Int32)) many ways base next).bind fun x3 => (some ((1 : Int32), nI w, x3.2.1, x3.2.2.1, x3.2.2.2.1, x3.2.2.2.2))) else (if D_foundLimit = nI w then (some (D_isFound, D_foundLimit, many, ways, base, next)) else ((f_Ref_find_L50 n (nI w) D_sorts D_length D_types D_sortOf D_makes D_starts D_told D_row n (D_length - (1 : Int32)) many ways base next).bind fun x5 => (some ((1 : Int32), nI w, x5.2.1, x5.2.2.1, x5.2.2.2.1, x5.2.2.2.2))))) = some (fd, nI w, many', ways', base', next') ∧ fd ≠ 0 ∧ d_mok (m_C ty rk rs fi al rw_ w) so ln 0 many' := by
    intro w hw2
    obtain ⟨v, many1, ways1, base1, next1, g1, g2⟩ := q_findL50 (n := n) (u := w) hn hm hd hR hD hW hw hw2 n ln many ways base next (Nat.le_refl _) (by omega) (fun A _ i j h1 h2 h3 => by omega)
    have g1' : f_Ref_find_L50 n (nI w) D_sorts D_length D_types D_sortOf D_makes D_starts D_told D_row n (D_length - (1 : Int32)) many ways base next = some (v, many1, ways1, base1, next1) := by
      rw [show D_length - (1 : Int32) = nI ln - (1 : Int32) by rw [hw.1]]
      exact g1
    by_cases h : D_isFound = 0
    · rw [if_pos h, g1', bind_some]
      exact ⟨_, _, _, _, _, rfl, by decide, g2⟩
    · rw [if_neg h]
      by_cases h2 : D_foundLimit = nI w
      · obtain ⟨w2, c1, c2, c3⟩ := hca h
        rw [if_pos h2]
        have e : w2 = w := by
          rw [c2] at h2
          exact (nI_eq (by omega) (by omega)).mp h2
        subst e
        rw [h2]
        exact ⟨_, _, _, _, _, rfl, h, c3⟩
      · rw [if_neg h2, g1', bind_some]
        exact ⟨_, _, _, _, _, rfl, by decide, g2⟩
  unfold f_Ref_find
  rw [hD.1]
  by_cases h : nI cl ≤ p
  · have e : m_u cl p = cl := by
      unfold m_u
      rw [if_neg hp, if_pos h]
    rw [if_pos h, e]
    exact all cl (Nat.le_refl _)
  · rw [if_neg h]
    rcases i_any p (show cl < 2 ^ 31 by omega) with q | q | ⟨j, hj, rfl⟩
    · exact absurd q hp
    · exact absurd q h
    · have e : m_u cl (nI j) = j := by
        unfold m_u
        rw [if_neg hp, if_neg h, nI_clamp (by omega)]
      rw [e]
      exact all j (by omega)
theorem q_part (hn : 40000 ≤ n) (hm : m_S sz so ty rk) (hd : d_S sz so ty rk D_symbols D_sorts D_types D_sortOf) (hR : m_R sz ty rk cl us op rs fi al) (hD : d_R cl us op rs fi al D_rules D_isOpen D_all D_makes D_starts D_told) (hW : m_W sz ln rw_) (hw : a_W ln rw_ D_length D_row) {D_isFound D_foundLimit : Int32} {many ways base next : Nat → Int32} (hca : d_cache ty rk rs fi al rw_ cl so ln D_isFound D_foundLimit many) (p : Int32) {fr to j A : Nat} (hft : fr < to) (hto : to ≤ ln) (hj : j < sz) (hk : rk j = some A) :
    ∃ fd many' ways' base' next', f_Ref_part n D_symbols D_sorts D_rules D_length D_isFound D_foundLimit D_types D_sortOf D_makes D_starts D_told D_row many ways base next (nI j) p (nI fr) (nI to) = some (nI (m_C ty rk rs fi al rw_ (m_u cl p) A fr to), fd, nI (m_u cl p), many', ways', base', next') ∧ fd ≠ 0 ∧ d_mok (m_C ty rk rs fi al rw_ (m_u cl p)) so ln 0 many' := by
  have h59 := hW.1
  have hcl := hR.1
  have hsz := hm.1
  have hso := hm.2.1
  obtain ⟨-, k1, k2⟩ := hm.2.2.2.1 j A hk
  have hlt := d_ix_lt (show A < 100 by omega) (show fr < 60 by omega) (show to < 60 by omega)
  unfold f_Ref_part
  rw [q_isC hm hd hj, bind_some, if_pos k2, if_neg (show ¬ (1 : Int32) = 0 by decide), if_neg (nI_pos (by omega)), if_neg (by rw [i_le (by omega) (by omega)]; omega), if_pos (by rw [hw.1, i_le (by omega) (by omega)]; exact hto), x_gI (by omega) (by decide), nI_clamp (by omega), hd.2.2.2 j (by omega), hk, oI_some, if_neg (by rw [i_m1 (by omega)]; exact id)]
  by_cases h : p < 0
  · have e : m_u cl p = m_u cl 0 := by
      unfold m_u
      rw [if_pos h, if_neg (by decide)]
      by_cases z : nI cl ≤ 0
      · rw [if_pos z]
        rw [i_le0 (by omega)] at z
        exact z.symm
      · rw [if_neg z]
        rfl
    have hnot : ¬ (0 : Int32) ≤ p := by
      rw [Int32.lt_iff_toInt_lt] at h
      rw [Int32.le_iff_toInt_le]
      omega
    obtain ⟨fd, many1, ways1, base1, next1, g1, g2, g3⟩ := q_find (n := n) (ways := ways) (base := base) (next := next) hn hm hd hR hD hW hw hca (p := 0) (by decide)
    rw [if_neg hnot, g1, bind_some, x_gI (by omega) (by decide), d_ixI, x_gI hlt (by decide), nI_clamp (by omega), e]
    refine ⟨fd, many1, ways1, base1, next1, ?_, g2, g3⟩
    show some (many1 (d_ix A fr to), _) = _
    rw [g3 A k1 fr to (Nat.zero_le _) hft hto]
  · have hyes : (0 : Int32) ≤ p := by
      rw [Int32.lt_iff_toInt_lt] at h
      rw [Int32.le_iff_toInt_le]
      omega
    obtain ⟨fd, many1, ways1, base1, next1, g1, g2, g3⟩ := q_find (n := n) (ways := ways) (base := base) (next := next) hn hm hd hR hD hW hw hca h
    rw [if_pos hyes, g1, bind_some, x_gI (by omega) (by decide), d_ixI, x_gI hlt (by decide), nI_clamp (by omega)]
    refine ⟨fd, many1, ways1, base1, next1, ?_, g2, g3⟩
    show some (many1 (d_ix A fr to), _) = _
    rw [g3 A k1 fr to (Nat.zero_le _) hft hto]
theorem d_cache_of {fd : Int32} {many : Nat → Int32} {w : Nat} (hw : w ≤ cl) (h : d_mok (m_C ty rk rs fi al rw_ w) so ln 0 many) : d_cache ty rk rs fi al rw_ cl so ln fd (nI w) many := fun _ => ⟨w, hw, rfl, h⟩
end RG
