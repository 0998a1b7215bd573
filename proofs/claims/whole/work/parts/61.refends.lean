/-! The reference's tree: whether the rest of a rule may be a stretch, and where a symbol of it ends -/
theorem bb_ext {a b : Int64} (h : ∀ i, bb a i = bb b i) : a = b := by
  apply Int64.toBitVec_inj.mp
  apply BitVec.eq_of_getLsbD_eq
  intro i hi
  exact h i
theorem bb_sh0 : ∀ k, k < 64 → (((nI k).toInt64 &&& 63).toBitVec.smod 64).toNat = k := by decide +kernel
theorem bb_sh {w : Int64} {k : Nat} (hk : k < 64) : bb (w >>> ((nI k).toInt64 &&& 63)) 0 = bb w k := by
  unfold bb
  rw [Int64.toBitVec_shiftRight, BitVec.sshiftRight', BitVec.getLsbD_sshiftRight, bb_sh0 k hk]
  simp [hk]
theorem bb_one0 (i : Nat) : bb 1 i = decide (i = 0) := by
  have := bb_bit (k := 0) (i := i) (by decide)
  exact this
theorem q_bit {w : Int64} {k : Nat} (hk : k < 64) : lg_cmp ((w >>> ((nI k).toInt64 &&& 63)) &&& (1 : Int64)) (1 : Int64) = 0 ↔ bb w k = true := by
  rw [lc_0, ← bb_sh hk]
  generalize w >>> ((nI k).toInt64 &&& 63) = v
  constructor
  · intro h
    have := congrArg (fun z => bb z 0) h
    have h2 : bb (v &&& 1) 0 = bb 1 0 := this
    rw [bb_and, bb_one0] at h2
    simpa using h2
  · intro h
    apply bb_ext
    intro i
    rw [bb_and, bb_one0]
    by_cases z : i = 0
    · rw [z, h]; rfl
    · simp [z]
section RE
variable {n sz so : Nat} {ty rk : Nat → Option Nat} {cl us : Nat} {op : Bool} {rs fi al : Nat → Nat} {D_symbols D_sorts : Int32} {D_types D_sortOf : Nat → Int32} {D_rules D_isOpen D_all : Int32} {D_makes D_starts D_told : Nat → Int32} {ln : Nat} {rw_ : Nat → Nat} {D_length : Int32} {D_row : Nat → Int32} {c : Nat → Nat → Nat → Nat} {many : Nat → Int32}
theorem q_endsL72 (hm : m_S sz so ty rk) (hd : d_S sz so ty rk D_symbols D_sorts D_types D_sortOf) (hW : m_W sz ln rw_) (hv : a_W ln rw_ D_length D_row) (hc : ∀ A k l, k < l → c A k l ≤ 2) (hmo : d_mok c so ln 0 many) {s m b : Nat} (hs : s < sz) (hmb : m < b) (hb : b ≤ ln) :
    ∀ (k t : Nat) (acc : Int64), m < t → t ≤ b + 1 → b + 1 - t < k → ∃ w acc', f_Ref_ends_L72 n (nI m) (nI s) (nI b) D_types D_sortOf D_row many k (nI t) acc = some (w, acc') ∧ ∀ e, bb acc' e = true ↔ bb acc e = true ∨ (t ≤ e ∧ e ≤ b ∧ 0 < g_sp rw_ (gvt ty rk) c s m e) := by
  have h59 := hW.1
  have hsz := hm.1
  intro k
  induction k with
  | zero => intro t acc _ _ h; exact absurd h (Nat.not_lt_zero _)
  | succ k ih =>
    intro t acc h1 h2 h3
    rw [f_Ref_ends_L72]
    by_cases h : b < t
    · rw [if_pos (by rw [i_lt (by omega) (by omega)]; exact h)]
      exact ⟨_, _, rfl, fun e => ⟨Or.inl, fun z => z.elim id (fun y => by omega)⟩⟩
    · rw [if_neg (by rw [i_lt (by omega) (by omega)]; exact h), x_gI (by omega) (by decide), nI_clamp (by omega), hd.2.2.1 s hs]
      have no : ¬ 0 < g_sp rw_ (gvt ty rk) c s m t → ∃ w acc', f_Ref_ends_L72 n (nI m) (nI s) (nI b) D_types D_sortOf D_row many k (nI t + 1) acc = some (w, acc') ∧ ∀ e, bb acc' e = true ↔ bb acc e = true ∨ (t ≤ e ∧ e ≤ b ∧ 0 < g_sp rw_ (gvt ty rk) c s m e) := by
        intro hno
        rw [nI_1]
        obtain ⟨w, acc', f1, f2⟩ := ih (t + 1) acc (by omega) (by omega) (by omega)
        refine ⟨w, acc', f1, fun e => ?_⟩
        rw [f2 e]
        constructor
        · rintro (y | ⟨y1, y2, y3⟩)
          · exact Or.inl y
          · exact Or.inr ⟨by omega, y2, y3⟩
        · rintro (y | ⟨y1, y2, y3⟩)
          · exact Or.inl y
          · by_cases z : e = t
            · rw [z] at y3; exact absurd y3 hno
            · exact Or.inr ⟨by omega, y2, y3⟩
      have yes : 0 < g_sp rw_ (gvt ty rk) c s m t → ∃ w acc', f_Ref_ends_L72 n (nI m) (nI s) (nI b) D_types D_sortOf D_row many k (nI t + 1) (acc ||| ((1 : Int64) <<< ((nI t).toInt64 &&& 63))) = some (w, acc') ∧ ∀ e, bb acc' e = true ↔ bb acc e = true ∨ (t ≤ e ∧ e ≤ b ∧ 0 < g_sp rw_ (gvt ty rk) c s m e) := by
        intro hy
        rw [nI_1]
        obtain ⟨w, acc', f1, f2⟩ := ih (t + 1) (acc ||| ((1 : Int64) <<< ((nI t).toInt64 &&& 63))) (by omega) (by omega) (by omega)
        refine ⟨w, acc', f1, fun e => ?_⟩
        rw [f2 e, bb_or, Bool.or_eq_true, bb_bit (by omega), decide_eq_true_iff]
        constructor
        · rintro ((y | y) | ⟨y1, y2, y3⟩)
          · exact Or.inl y
          · rw [y]; exact Or.inr ⟨Nat.le_refl _, by omega, hy⟩
          · exact Or.inr ⟨by omega, y2, y3⟩
        · rintro (y | ⟨y1, y2, y3⟩)
          · exact Or.inl (Or.inl y)
          · by_cases z : e = t
            · exact Or.inl (Or.inr z)
            · exact Or.inr ⟨by omega, y2, y3⟩
      cases hg : gvt ty rk s with
      | none =>
        have hty := (gvt_none hm hs).mp hg
        have hsp : g_sp rw_ (gvt ty rk) c s m t = if t = m + 1 ∧ rw_ m = s then 1 else 0 := by
          unfold g_sp
          rw [hg]
        rw [if_pos (by rw [hty]; rfl), nI_1 m]
        have hrow := hW.2 m (by omega)
        by_cases z : t = m + 1
        · rw [if_pos (by rw [z]), x_gI (by omega) (by decide), nI_clamp (by omega), hv.2 m (by omega)]
          by_cases y : rw_ m = s
          · rw [if_pos (by rw [y]), if_neg (show ¬ (1 : Int32) = 0 by decide)]
            exact yes (by rw [hsp, if_pos ⟨z, y⟩]; omega)
          · rw [if_neg (by rw [i_eq (by omega) (by omega)]; exact y), if_pos rfl]
            exact no (by rw [hsp, if_neg (fun v => y v.2)]; omega)
        · rw [if_neg (by rw [i_eq (by omega) (by omega)]; exact z), if_pos rfl]
          exact no (by rw [hsp, if_neg (fun v => z v.1)]; omega)
      | some A =>
        obtain ⟨t', ht, -⟩ := gvt_some hg
        have hAs := gvt_lt hm hg
        have hsp : g_sp rw_ (gvt ty rk) c s m t = c A m t := by
          unfold g_sp
          rw [hg]
          exact if_pos h1
        have hc2 := hc A m t h1
        rw [if_neg (by rw [ht, oI_some, i_m1 (hm.ty_lt hs ht)]; exact id), q_treesOf hm hd hs hg (by omega) (by omega), bind_some, hmo A hAs m t (Nat.zero_le _) h1 (by omega)]
        by_cases z : c A m t = 0
        · rw [if_pos (by rw [i_le0 (by omega)]; exact z), if_pos rfl]
          exact no (by rw [hsp]; omega)
        · rw [if_neg (by rw [i_le0 (by omega)]; exact z), if_neg (show ¬ (1 : Int32) = 0 by decide)]
          exact yes (by rw [hsp]; omega)
theorem q_endsL47 (hn : 40000 ≤ n) (hm : m_S sz so ty rk) (hd : d_S sz so ty rk D_symbols D_sorts D_types D_sortOf) (hW : m_W sz ln rw_) (hv : a_W ln rw_ D_length D_row) (hc : ∀ A k l, k < l → c A k l ≤ 2) (hmo : d_mok c so ln 0 many) {s b : Nat} (hs : s < sz) (hb : b ≤ ln) (F : Int64) :
    ∀ (k m : Nat) (acc : Int64), m ≤ b → b - m < k → ∃ w acc', f_Ref_ends_L47 n (nI s) F (nI b) D_types D_sortOf D_row many k (nI m) acc = some (w, acc') ∧ ∀ e, bb acc' e = true ↔ bb acc e = true ∨ ∃ m', m ≤ m' ∧ m' < e ∧ e ≤ b ∧ bb F m' = true ∧ 0 < g_sp rw_ (gvt ty rk) c s m' e := by
  have h59 := hW.1
  intro k
  induction k with
  | zero => intro m acc _ h; exact absurd h (Nat.not_lt_zero _)
  | succ k ih =>
    intro m acc h2 h3
    rw [f_Ref_ends_L47]
    by_cases h : b ≤ m
    · rw [if_pos (by rw [i_le (by omega) (by omega)]; exact h)]
      exact ⟨_, _, rfl, fun e => ⟨Or.inl, fun z => z.elim id (fun ⟨m', y1, y2, y3, _⟩ => by omega)⟩⟩
    · rw [if_neg (by rw [i_le (by omega) (by omega)]; exact h)]
      by_cases hF : bb F m = true
      · rw [if_pos ((q_bit (by omega)).mpr hF), nI_1]
        obtain ⟨w1, acc1, f1, f2⟩ := q_endsL72 (n := n) hm hd hW hv hc hmo hs (show m < b by omega) hb n (m + 1) acc (by omega) (by omega) (by omega)
        rw [f1, bind_some]
        obtain ⟨w, acc', g1, g2⟩ := ih (m + 1) acc1 (by omega) (by omega)
        refine ⟨w, acc', g1, fun e => ?_⟩
        rw [g2 e, f2 e]
        constructor
        · rintro ((y | ⟨y1, y2, y3⟩) | ⟨m', y1, y2, y3, y4, y5⟩)
          · exact Or.inl y
          · exact Or.inr ⟨m, Nat.le_refl _, by omega, y2, hF, y3⟩
          · exact Or.inr ⟨m', by omega, y2, y3, y4, y5⟩
        · rintro (y | ⟨m', y1, y2, y3, y4, y5⟩)
          · exact Or.inl (Or.inl y)
          · by_cases z : m' = m
            · rw [z] at y2 y5; exact Or.inl (Or.inr ⟨by omega, y3, y5⟩)
            · exact Or.inr ⟨m', by omega, y2, y3, y4, y5⟩
      · rw [if_neg (fun y => hF ((q_bit (by omega)).mp y)), nI_1]
        obtain ⟨w, acc', g1, g2⟩ := ih (m + 1) acc (by omega) (by omega)
        refine ⟨w, acc', g1, fun e => ?_⟩
        rw [g2 e]
        constructor
        · rintro (y | ⟨m', y1, y2, y3, y4, y5⟩)
          · exact Or.inl y
          · exact Or.inr ⟨m', by omega, y2, y3, y4, y5⟩
        · rintro (y | ⟨m', y1, y2, y3, y4, y5⟩)
          · exact Or.inl y
          · by_cases z : m' = m
            · rw [z] at y4; exact absurd y4 hF
            · exact Or.inr ⟨m', by omega, y2, y3, y4, y5⟩
theorem q_endsL8 (hn : 40000 ≤ n) (hm : m_S sz so ty rk) (hd : d_S sz so ty rk D_symbols D_sorts D_types D_sortOf) (hR : m_R sz ty rk cl us op rs fi al) (hD : d_R cl us op rs fi al D_rules D_isOpen D_all D_makes D_starts D_told) (hW : m_W sz ln rw_) (hv : a_W ln rw_ D_length D_row) (hc : ∀ A k l, k < l → c A k l ≤ 2) (hmo : d_mok c so ln 0 many) {r a b : Nat} (hr : r < cl) (hab : a ≤ b) (hb : b ≤ ln) :
    ∀ (k p : Nat) (F : Int64), p ≤ grl fi r → grl fi r - p < k → (∀ m, bb F m = true → a ≤ m ∧ m ≤ b) → ∃ w F', f_Ref_ends_L8 n (nI r) (nI a) (nI b) D_types D_sortOf D_starts D_told D_row many k (nI p) F = some (w, F') ∧ (bb F' b = true ↔ ∃ m, bb F m = true ∧ g_sf rw_ (gvt ty rk) (gra fi al) c r (grl fi r - p) p m b) := by
  have h59 := hW.1
  have hcl := hR.1
  have h1 := m_fi_us hR hr
  have hus := hR.2.1
  have h299 := (hR.2.2.2.1 r hr).2
  have hgl : grl fi r = fi (r + 1) - fi r := rfl
  intro k
  induction k with
  | zero => intro p F _ h; exact absurd h (Nat.not_lt_zero _)
  | succ k ih =>
    intro p F h2 h3 h4
    rw [f_Ref_ends_L8, q_lengthOf hR hD hr, bind_some]
    by_cases h : grl fi r ≤ p
    · have e : p = grl fi r := by omega
      subst e
      rw [if_pos (by rw [i_le (by omega) (by omega)]; exact h)]
      refine ⟨_, _, rfl, ?_⟩
      rw [Nat.sub_self]
      exact ⟨fun y => ⟨b, y, rfl⟩, fun ⟨m, y1, y2⟩ => by
        have : m = b := y2
        rw [← this]; exact y1⟩
    · rw [if_neg (by rw [i_le (by omega) (by omega)]; exact h)]
      by_cases h0 : F = 0
      · rw [if_pos (lc_0.mpr h0)]
        refine ⟨_, _, rfl, ?_⟩
        rw [h0]
        exact ⟨fun y => (by rw [bb_0] at y; cases y), fun ⟨m, y1, _⟩ => (by rw [bb_0] at y1; cases y1)⟩
      · have hs : al (fi r + p) < sz := hR.2.2.2.2.2.2.2.2.1 (fi r + p) (by omega)
        rw [if_neg (fun y => h0 (lc_0.mp y)), x_gI (by omega) (by decide), nI_clamp (by omega), hD.2.2.2.2.1 r (by omega), i_add, x_gI (by omega) (by decide), nI_clamp (by omega), hD.2.2.2.2.2 (fi r + p) (by omega)]
        obtain ⟨w1, F1, f1, f2⟩ := q_endsL47 (n := n) hn hm hd hW hv hc hmo hs hb F n a 0 hab (by omega)
        rw [f1, bind_some, nI_1]
        obtain ⟨w, F', g1, g2⟩ := ih (p + 1) F1 (by omega) (by omega) (fun m y => by
          have := (f2 m).mp y
          rw [bb_0] at this
          rcases this with z | ⟨m', y1, y2, y3, _⟩
          · cases z
          · omega)
        refine ⟨w, F', g1, ?_⟩
        rw [g2]
        have hd1 : grl fi r - p = (grl fi r - (p + 1)) + 1 := by omega
        rw [hd1]
        constructor
        · rintro ⟨e, y1, y2⟩
          have y3 := (f2 e).mp y1
          rw [bb_0] at y3
          rcases y3 with z | ⟨m', z1, z2, z3, z4, z5⟩
          · cases z
          · exact ⟨m', z4, e, z2, z3, z5, y2⟩
        · rintro ⟨m', z4, e, z2, z3, z5, y2⟩
          exact ⟨e, (f2 e).mpr (Or.inr ⟨m', (h4 m' z4).1, z2, z3, z4, z5⟩), y2⟩
/-- whether the rest of a rule may be a stretch -/
theorem q_ends (hn : 40000 ≤ n) (hm : m_S sz so ty rk) (hd : d_S sz so ty rk D_symbols D_sorts D_types D_sortOf) (hR : m_R sz ty rk cl us op rs fi al) (hD : d_R cl us op rs fi al D_rules D_isOpen D_all D_makes D_starts D_told) (hW : m_W sz ln rw_) (hv : a_W ln rw_ D_length D_row) (hc : ∀ A k l, k < l → c A k l ≤ 2) (hmo : d_mok c so ln 0 many) {r a b p : Nat} (hr : r < cl) (hab : a ≤ b) (hb : b ≤ ln) (hp : p ≤ grl fi r) :
    ∃ v, f_Ref_ends n D_types D_sortOf D_starts D_told D_row many (nI r) (nI p) (nI a) (nI b) = some v ∧ (v = 0 ↔ ¬ g_sf rw_ (gvt ty rk) (gra fi al) c r (grl fi r - p) p a b) := by
  have h59 := hW.1
  have h299 := (hR.2.2.2.1 r hr).2
  have hgl : grl fi r = fi (r + 1) - fi r := rfl
  obtain ⟨w, F', g1, g2⟩ := q_endsL8 (n := n) hn hm hd hR hD hW hv hc hmo hr hab hb n p ((1 : Int64) <<< ((nI a).toInt64 &&& 63)) hp (by omega) (fun m y => by
    rw [bb_bit (by omega), decide_eq_true_iff] at y
    omega)
  have g2' : bb F' b = true ↔ g_sf rw_ (gvt ty rk) (gra fi al) c r (grl fi r - p) p a b := by
    rw [g2]
    constructor
    · rintro ⟨m, y1, y2⟩
      rw [bb_bit (by omega), decide_eq_true_iff] at y1
      rw [← y1]; exact y2
    · intro y
      exact ⟨a, by rw [bb_bit (by omega), decide_eq_true_iff], y⟩
  unfold f_Ref_ends
  rw [g1, bind_some]
  by_cases z : bb F' b = true
  · rw [if_pos ((q_bit (by omega)).mpr z)]
    exact ⟨_, rfl, ⟨fun y => absurd y (by decide), fun y => absurd (g2'.mp z) y⟩⟩
  · rw [if_neg (fun y => z ((q_bit (by omega)).mp y))]
    exact ⟨_, rfl, ⟨fun _ y => z (g2'.mpr y), fun _ => rfl⟩⟩
/-- a symbol's end -/
theorem q_growL178 (hn : 40000 ≤ n) (hm : m_S sz so ty rk) (hd : d_S sz so ty rk D_symbols D_sorts D_types D_sortOf) (hR : m_R sz ty rk cl us op rs fi al) (hD : d_R cl us op rs fi al D_rules D_isOpen D_all D_makes D_starts D_told) (hW : m_W sz ln rw_) (hv : a_W ln rw_ D_length D_row) (hc : ∀ A k l, k < l → c A k l ≤ 2) (hmo : d_mok c so ln 0 many) {r b p m e0 K : Nat} (hr : r < cl) (hb : b ≤ ln) (hp : p < grl fi r) (hK : K < 12000) {D_ruleOf : Nat → Int32} (hK2 : D_ruleOf K = nI r) (hme : m < e0) (he0 : e0 ≤ b) (hsp : 0 < g_sp rw_ (gvt ty rk) c (gra fi al r p) m e0) (hsf : g_sf rw_ (gvt ty rk) (gra fi al) c r (grl fi r - (p + 1)) (p + 1) e0 b)
    (hmin : ∀ e, m < e → e < e0 → ¬ (g_sf rw_ (gvt ty rk) (gra fi al) c r (grl fi r - (p + 1)) (p + 1) e b ∧ 0 < g_sp rw_ (gvt ty rk) c (gra fi al r p) m e)) :
    ∀ (k e : Nat), m < e → e ≤ e0 → e0 - e < k → (gvt ty rk (gra fi al r p) = none → e = m + 1) → f_Ref_grow_L178 n (nI (gra fi al r p)) (nI p) (nI m) (nI b) (nI K) D_types D_sortOf D_starts D_told D_row many D_ruleOf k (nI e) = some (nI e0) := by
  have h59 := hW.1
  have hsz := hm.1
  have h1 := m_fi_us hR hr
  have hgl : grl fi r = fi (r + 1) - fi r := rfl
  have hs : gra fi al r p < sz := hR.2.2.2.2.2.2.2.2.1 (fi r + p) (by omega)
  intro k
  induction k with
  | zero => intro e _ _ h; exact absurd h (Nat.not_lt_zero _)
  | succ k ih =>
    intro e h2 h3 h4 h5
    rw [f_Ref_grow_L178, x_gI (by omega) (by decide), nI_clamp (by omega), hd.2.2.1 _ hs]
    cases hg : gvt ty rk (gra fi al r p) with
    | none =>
      have hty := (gvt_none hm hs).mp hg
      rw [if_pos (by rw [hty]; rfl)]
      have e1 := h5 hg
      have hsp' := hsp
      unfold g_sp at hsp'
      rw [hg] at hsp'
      have hsp2 : 0 < (if e0 = m + 1 ∧ rw_ m = gra fi al r p then 1 else 0) := hsp'
      by_cases z : e0 = m + 1 ∧ rw_ m = gra fi al r p
      · rw [e1, z.1]
      · rw [if_neg z] at hsp2; omega
    | some A =>
      obtain ⟨t', ht, -⟩ := gvt_some hg
      have hAs := gvt_lt hm hg
      have hsp1 : ∀ t, m < t → g_sp rw_ (gvt ty rk) c (gra fi al r p) m t = c A m t := fun t ht => by
        unfold g_sp
        rw [hg]
        exact if_pos ht
      have hc2 := hc A m e h2
      rw [if_neg (by rw [ht, oI_some, i_m1 (hm.ty_lt hs ht)]; exact id), q_treesOf hm hd hs hg (by omega) (by omega), bind_some, hmo A hAs m e (Nat.zero_le _) h2 (by omega), nI_1 e]
      obtain ⟨v, v1, v2⟩ := q_ends (n := n) hn hm hd hR hD hW hv hc hmo hr (show e ≤ b by omega) hb (show p + 1 ≤ grl fi r by omega)
      by_cases hz : e = e0
      · subst hz
        rw [hsp1 e h2] at hsp
        rw [if_neg (by rw [i_eq0 (by omega)]; omega), x_gI hK (by decide), nI_clamp (by omega), hK2, nI_1, v1, bind_some, if_neg (fun y => v2.mp y hsf)]
      · have hno := hmin e h2 (by omega)
        by_cases z : c A m e = 0
        · rw [if_pos (by rw [i_eq0 (by omega)]; exact z)]
          exact ih (e + 1) (by omega) (by omega) (by omega) (fun y => by rw [hg] at y; cases y)
        · rw [if_neg (by rw [i_eq0 (by omega)]; exact z), x_gI hK (by decide), nI_clamp (by omega), hK2, nI_1 p, v1, bind_some, if_pos (v2.mpr (fun y => hno ⟨y, by rw [hsp1 e h2]; omega⟩))]
          exact ih (e + 1) (by omega) (by omega) (by omega) (fun y => by rw [hg] at y; cases y)
end RE
