/-! One node grows: class and reference alike -/
def t_node (ty : Nat → Option Nat) (rs fi al rw_ : Nat → Nat) (cl ln N : Nat) (ns na nb : Nat → Nat) (nr : Nat → Option Nat) (np : Nat → Nat) (i : Nat) : Prop :=
  (nr i = none → nb i = na i + 1 ∧ ty (rw_ (na i)) = some (ns i) ∧ np i = 0) ∧
  (∀ r, nr i = some r → r < cl ∧ rs r = ns i ∧ np i = t_pc ty fi al r (grl fi r) ∧ ∃ ap : Nat → Nat, ap 0 = na i ∧ ap (grl fi r) = nb i ∧ ∀ q, q < grl fi r → t_cond ty fi al rw_ ln (1 + sm i np) N ns na nb r ap q)
theorem t_node_up {ty : Nat → Option Nat} {rs fi al rw_ : Nat → Nat} {cl ln N N2 : Nat} {ns na nb ns2 na2 nb2 : Nat → Nat} {nr nr2 : Nat → Option Nat} {np np2 : Nat → Nat} {i : Nat} (hi : i < N) (hN : N ≤ N2) (h1 : ∀ j, j < N → ns2 j = ns j ∧ na2 j = na j ∧ nb2 j = nb j) (h2 : nr2 i = nr i) (h3 : ∀ j, j ≤ i → np2 j = np j) (h : t_node ty rs fi al rw_ cl ln N ns na nb nr np i) : t_node ty rs fi al rw_ cl ln N2 ns2 na2 nb2 nr2 np2 i := by
  obtain ⟨e1, e2, e3⟩ := h1 i hi
  have e4 : sm i np2 = sm i np := sm_congr (fun j hj => h3 j (by omega))
  refine ⟨fun z => ?_, fun r z => ?_⟩
  · rw [e1, e2, e3, h3 i (Nat.le_refl _)]
    exact h.1 (h2 ▸ z)
  · obtain ⟨a1, a2, a3, ap, a4, a5, a6⟩ := h.2 r (h2 ▸ z)
    rw [e1, e2, e3, h3 i (Nat.le_refl _), e4]
    refine ⟨a1, a2, a3, ap, a4, a5, fun q hq => ⟨(a6 q hq).1, fun t ht => ?_⟩⟩
    obtain ⟨b1, b2, b3, b4⟩ := (a6 q hq).2 t ht
    obtain ⟨f1, f2, f3⟩ := h1 _ b1
    rw [f1, f2, f3]
    exact ⟨by omega, b2, b3, b4⟩
theorem sm_diff : ∀ {N : Nat} {f g : Nat → Nat} {K : Nat}, K < N → (∀ i, i < N → i ≠ K → f i = g i) → sm N f + g K = sm N g + f K
  | 0, _, _, _, h, _ => absurd h (Nat.not_lt_zero _)
  | N + 1, f, g, K, h, he => by
    show sm N f + f N + g K = sm N g + g N + f K
    by_cases z : K = N
    · subst z
      rw [sm_congr (f := f) (g := g) (fun i hi => he i (by omega) (by omega))]
      omega
    · have := sm_diff (N := N) (f := f) (g := g) (K := K) (by omega) (fun i hi hn => he i (by omega) hn)
      have e := he N (by omega) (fun y => z y.symm)
      omega
section AL
variable {n sz so : Nat} {ty rk : Nat → Option Nat} {S_size S_sorts : Int32} {S_types S_ranks S_typeRanks : Nat → Int32}
theorem p_alone (hm : m_S sz so ty rk) (ha : a_S sz so ty rk S_size S_sorts S_types S_ranks S_typeRanks) {mln : Nat} {mrw : Nat → Nat} {M_length : Int32} {M_row : Nat → Int32} (hM : m_W sz mln mrw) (hMa : a_W mln mrw M_length M_row) {sr st_ en : Nat → Int32} {K s a b : Nat} (hK : K < 11700) (h1 : sr K = nI s) (h2 : st_ K = nI a) (h3 : en K = nI b) (hs : s < sz) (hab : a < b) (hb : b ≤ mln) :
    f_Tree_isVariableAlone n S_size S_types M_length M_row sr st_ en (nI K) = some (if b = a + 1 ∧ ty (mrw a) = some s then 1 else 0) := by
  have h59 := hM.1
  have hsz := hm.1
  have hrow := hM.2 a (by omega)
  unfold f_Tree_isVariableAlone
  rw [x_gI hK (by decide), nI_clamp (by omega), h2, p_rowAt hM hMa (by omega), bind_some, x_gI hK (by decide), x_gI hK (by decide), h3, nI_1]
  by_cases z : b = a + 1
  · rw [if_pos (by rw [z]), p_isV hm ha hrow, bind_some]
    cases hg : ty (mrw a) with
    | none => rw [if_pos rfl, if_pos rfl, if_neg (fun y => by simp at y)]
    | some t =>
      rw [if_neg (by simp), p_typeOf hm ha hrow, bind_some, x_gI hK (by decide), h1, hg, oI_some]
      have ht := (hm.2.2.1 _ hrow t hg).1
      by_cases y : t = s
      · rw [if_pos (by rw [y]), if_pos ⟨z, by rw [y]⟩]
      · rw [if_neg (by rw [i_eq (by omega) (by omega)]; exact y), if_neg (fun v => y (Option.some.inj v.2))]
  · rw [if_neg (by rw [i_eq (by omega) (by omega)]; exact z), if_neg (fun v => z v.1)]
end AL
section GW
variable {n sz so : Nat} {ty rk : Nat → Option Nat} {cl us : Nat} {op : Bool} {rs fi al : Nat → Nat} {S_size S_sorts : Int32} {S_types S_ranks S_typeRanks : Nat → Int32} {R_closed R_used R_isOpen : Int32} {R_sorts R_all R_firsts R_newestWraps R_olderWraps : Nat → Int32} {ln : Nat} {rw_ : Nat → Nat} {W_length : Int32} {W_row : Nat → Int32} {M_row : Nat → Int32} {D_symbols D_sorts : Int32} {D_types D_sortOf : Nat → Int32} {D_rules D_isOpen D_all : Int32} {D_makes D_starts D_told : Nat → Int32} {D_length : Int32} {D_row : Nat → Int32} {u : Nat} {st sv : Nat → Int64} {many : Nat → Int32} {c : Nat → Nat → Nat → Nat}
theorem p_growL (hn : 40000 ≤ n) (hm : m_S sz so ty rk) (ha : a_S sz so ty rk S_size S_sorts S_types S_ranks S_typeRanks) (hR : m_R sz ty rk cl us op rs fi al) (hA : a_R ty rk cl us op rs fi al R_closed R_used R_isOpen R_sorts R_all R_firsts R_newestWraps R_olderWraps) (hW : m_W sz ln rw_) (hw : a_W ln rw_ W_length W_row) (hu : u ≤ cl)
    (hst : c_done c so ln 0 st sv) {r0 s a b K : Nat} (hr0 : r0 < u) (hab : a < b) (hb : b ≤ ln) (hK : K < 11700) (hs : s < sz) (hrs : rs r0 = s) (hsf : g_sf rw_ (gvt ty rk) (gra fi al) c r0 (grl fi r0) 0 a b) (hmin : ∀ r, r < r0 → ¬ (rs r = s ∧ g_sf rw_ (gvt ty rk) (gra fi al) c r (grl fi r) 0 a b))
    (T_size : Int32) (ru sr st_ en fp pc : Nat → Int32) (h1 : sr K = nI s) (h2 : st_ K = nI a) (h3 : en K = nI b) :
    ∀ (k q : Nat) (rests : Nat → Int64), q ≤ r0 → r0 - q < k → ∃ rests', (∀ p, p ≤ grl fi r0 → c_re ty rk fi al rw_ c r0 b p (rests' p)) ∧ f_Tree_grow_L11 n (nI K) (nI u) S_size S_types S_typeRanks R_closed R_used R_sorts R_all R_firsts W_length W_row (nI ln) st k (nI q) T_size ru sr st_ en fp pc rests = (f_Tree_appendParts n S_size S_types S_typeRanks R_closed R_used R_all R_firsts W_length W_row (nI ln) st T_size (upd ru K (nI r0)) sr st_ en fp pc rests' (nI K) (nI r0)).bind fun x10 => (some (x10.1, x10.2.1, x10.2.2.1, x10.2.2.2.1, x10.2.2.2.2.1, x10.2.2.2.2.2.1, x10.2.2.2.2.2.2, rests')) := by
  have h59 := hW.1
  have hcl := hR.1
  have hsz := hm.1
  intro k
  induction k with
  | zero => intro q rests _ h; exact absurd h (Nat.not_lt_zero _)
  | succ k ih =>
    intro q rests hq hk
    have hqs : rs q < sz := (hR.2.2.2.2.2.2.2.2.2 q (Or.inl (by omega))).1
    rw [f_Tree_grow_L11, if_neg (by rw [i_le (by omega) (by omega)]; omega), p_sortOf hR hA (by omega), bind_some, x_gI hK (by decide), nI_clamp (show K < 2 ^ 31 by omega), h1, nI_1]
    by_cases hz : rs q = s
    · rw [if_pos (by rw [hz]), x_gI hK (by decide), x_gI hK (by decide), h2, h3]
      obtain ⟨v, rests', f1, f2, f3⟩ := p_fits (n := n) hn hm ha hR hA hW hw hst (show q < cl by omega) hab hb rests
      rw [f1, bind_some]
      by_cases hf : g_sf rw_ (gvt ty rk) (gra fi al) c q (grl fi q) 0 a b
      · have e : q = r0 := by
          rcases Nat.lt_or_ge q r0 with y | y
          · exact absurd ⟨hz, hf⟩ (hmin q y)
          · omega
        subst e
        have hv : v ≠ 0 := fun y => f2.mp y hf
        rw [if_neg hv, x_gI hK (by decide)]
        exact ⟨rests', f3 hv, rfl⟩
      · rw [if_pos (f2.mpr hf)]
        have hne : q ≠ r0 := fun y => hf (y ▸ hsf)
        exact ih (q + 1) rests' (by omega) (by omega)
    · rw [if_neg (by rw [i_eq (by omega) (by omega)]; exact hz)]
      have hne : q ≠ r0 := fun y => hz (y ▸ hrs)
      exact ih (q + 1) rests (by omega) (by omega)
theorem q_growL57 (hn : 40000 ≤ n) (hm : m_S sz so ty rk) (hd : d_S sz so ty rk D_symbols D_sorts D_types D_sortOf) (hR : m_R sz ty rk cl us op rs fi al) (hD : d_R cl us op rs fi al D_rules D_isOpen D_all D_makes D_starts D_told) (hW : m_W sz ln rw_) (hv : a_W ln rw_ D_length D_row) (hu : u ≤ cl) (hc : ∀ A k l, k < l → c A k l ≤ 2) (hmo : d_mok c so ln 0 many)
    {r0 s a b K : Nat} (hr0 : r0 < u) (hab : a < b) (hb : b ≤ ln) (hK : K < 12000) (hs : s < sz) (hrs : rs r0 = s) (hsf : g_sf rw_ (gvt ty rk) (gra fi al) c r0 (grl fi r0) 0 a b) (hmin : ∀ r, r < r0 → ¬ (rs r = s ∧ g_sf rw_ (gvt ty rk) (gra fi al) c r (grl fi r) 0 a b))
    (du ds : Nat → Int32) (h0 : du K = -1) (h1 : ds K = nI s) :
    ∀ (k q : Nat), q ≤ r0 → r0 + 1 - q < k → ∃ w, f_Ref_grow_L57 n (nI b) (nI a) (nI K) (nI u) D_types D_sortOf D_makes D_starts D_told D_row many ds k (nI q) du = some (w, upd du K (nI r0)) := by
  have h59 := hW.1
  have hcl := hR.1
  have hsz := hm.1
  intro k
  induction k with
  | zero => intro q _ h; exact absurd h (Nat.not_lt_zero _)
  | succ k ih =>
    intro q hq hk
    have hqs : rs q < sz := (hR.2.2.2.2.2.2.2.2.2 q (Or.inl (by omega))).1
    have hgl : grl fi q = fi (q + 1) - fi q := rfl
    have h1q := m_fi_us hR (show q < cl by omega)
    have hus := hR.2.1
    rw [f_Ref_grow_L57, if_neg (by rw [i_le (by omega) (by omega)]; omega), x_gI hK (by decide), nI_clamp (show K < 2 ^ 31 by omega), h0, if_pos rfl, x_gI (show q < 1500 by omega) (by decide), x_gI hK (by decide), nI_clamp (show q < 2 ^ 31 by omega), hD.2.2.2.1 q (Or.inl (by omega)), h1, nI_1]
    by_cases hz : rs q = s
    · rw [if_pos (by rw [hz]), q_lengthOf hR hD (by omega), bind_some, i_sub (by omega)]
      by_cases hl : b - a < grl fi q
      · rw [if_pos (by rw [i_lt (by omega) (by omega)]; exact hl)]
        have hne : q ≠ r0 := fun y => by
          rw [← y] at hsf
          have := g_sf_len hsf
          omega
        exact ih (q + 1) (by omega) (by omega)
      · rw [if_neg (by rw [i_lt (by omega) (by omega)]; exact hl)]
        obtain ⟨v, v1, v2⟩ := q_ends (n := n) hn hm hd hR hD hW hv hc hmo (show q < cl by omega) (show a ≤ b by omega) hb (Nat.zero_le (grl fi q))
        have v1' : f_Ref_ends n D_types D_sortOf D_starts D_told D_row many (nI q) 0 (nI a) (nI b) = some v := v1
        rw [Nat.sub_zero] at v2
        rw [v1', bind_some]
        by_cases hf : g_sf rw_ (gvt ty rk) (gra fi al) c q (grl fi q) 0 a b
        · have e : q = r0 := by
            rcases Nat.lt_or_ge q r0 with y | y
            · exact absurd ⟨hz, hf⟩ (hmin q y)
            · omega
          subst e
          rw [if_neg (fun y => v2.mp y hf), x_gI hK (by decide)]
          obtain ⟨k', rfl⟩ : ∃ k', k = k' + 1 := ⟨k - 1, by omega⟩
          rw [f_Ref_grow_L57]
          by_cases hl2 : u ≤ q + 1
          · rw [if_pos (by rw [i_le (by omega) (by omega)]; exact hl2)]
            exact ⟨_, rfl⟩
          · rw [if_neg (by rw [i_le (by omega) (by omega)]; exact hl2), x_gI hK (by decide), nI_clamp (show K < 2 ^ 31 by omega), pk_us, if_neg (by rw [i_m1 (by omega)]; exact id)]
            exact ⟨_, rfl⟩
        · rw [if_pos (v2.mpr hf)]
          have hne : q ≠ r0 := fun y => hf (y ▸ hsf)
          exact ih (q + 1) (by omega) (by omega)
    · rw [if_neg (by rw [i_eq (by omega) (by omega)]; exact hz)]
      have hne : q ≠ r0 := fun y => hz (y ▸ hrs)
      exact ih (q + 1) (by omega) (by omega)
/-- the tree so far: K nodes have grown -/
def t_inv (so : Nat) (ty rk : Nat → Option Nat) (rs fi al rw_ : Nat → Nat) (u cl ln K N : Nat) (ns na nb : Nat → Nat) (nr : Nat → Option Nat) (np : Nat → Nat) (dv : Nat → Int32) : Prop :=
  K ≤ N ∧ t_ok ty rk rs fi al rw_ u ln N ns na nb ∧ (∀ i, K ≤ i → nr i = none ∧ np i = 0) ∧ N = 1 + sm K np ∧ sm N (t_g so ty rk rs fi al rw_ u K ns na nb) ≤ 11700 ∧ (∀ i, i < K → t_node ty rs fi al rw_ cl ln N ns na nb nr np i) ∧ (∀ i, i < K → nr i = none → dv i = nI (rw_ (na i)))
theorem t_inv_N (hm : m_S sz so ty rk) (hR : m_R sz ty rk cl us op rs fi al) (hu : u ≤ cl) {K N : Nat} {ns na nb : Nat → Nat} {nr : Nat → Option Nat} {np : Nat → Nat} {dv : Nat → Int32} (h : t_inv so ty rk rs fi al rw_ u cl ln K N ns na nb nr np dv) : N ≤ 11700 := by
  obtain ⟨-, tok, -, -, hsum, -, -⟩ := h
  have z1 : N ≤ sm N (t_g so ty rk rs fi al rw_ u K ns na nb) := sm_1le (fun i hi => by
    obtain ⟨y1, y2, A, y3, y4⟩ := tok i hi
    unfold t_g
    by_cases z : i < K
    · rw [if_pos z]; exact Nat.le_refl _
    · rw [if_neg z]
      exact (t_pot_1 hm hR hu y1 y3 (by omega)).1)
  omega
theorem t_A_set {N K r : Nat} {ns na nb : Nat → Nat} {nr : Nat → Option Nat} {np : Nat → Nat} {ru sr st_ en fp pc : Nat → Int32} (h0 : np K = 0) (h : t_A N ns na nb nr np ru sr st_ en fp pc) : t_A N ns na nb (fun i => if i = K then some r else nr i) (m_up np K 0) (upd ru K (nI r)) sr st_ en fp pc := by
  have e : m_up np K 0 = np := by
    funext i
    by_cases z : i = K
    · rw [z, m_up_s, h0]
    · rw [m_up_n z]
  rw [e]
  intro i hi
  obtain ⟨b1, b2, b3, b4, b5, b6⟩ := h i hi
  refine ⟨?_, b2, b3, b4, b5, b6⟩
  by_cases z : i = K
  · rw [z, pk_us]
    show _ = oI (if K = K then some r else nr K)
    rw [if_pos rfl]
    rfl
  · rw [pk_un z, b1]
    show _ = oI (if i = K then some r else nr i)
    rw [if_neg z]
/-- one node grows -/
theorem grow_step (hn : 40000 ≤ n) (hm : m_S sz so ty rk) (ha : a_S sz so ty rk S_size S_sorts S_types S_ranks S_typeRanks) (hd : d_S sz so ty rk D_symbols D_sorts D_types D_sortOf) (hR : m_R sz ty rk cl us op rs fi al) (hA : a_R ty rk cl us op rs fi al R_closed R_used R_isOpen R_sorts R_all R_firsts R_newestWraps R_olderWraps) (hD : d_R cl us op rs fi al D_rules D_isOpen D_all D_makes D_starts D_told) (hW : m_W sz ln rw_) (hw : a_W ln rw_ W_length W_row) (hM : a_W ln rw_ (nI ln) M_row) (hv : a_W ln rw_ D_length D_row) (hu : u ≤ cl)
    (hst : c_done (m_C ty rk rs fi al rw_ u) so ln 0 st sv) (hmo : d_mok (m_C ty rk rs fi al rw_ u) so ln 0 many) {K N : Nat} (hKN : K < N) {ns na nb : Nat → Nat} {nr : Nat → Option Nat} {np : Nat → Nat} {ru sr st_ en fp pc du ds df dt dp dc dv : Nat → Int32} (rests : Nat → Int64)
    (hi : t_inv so ty rk rs fi al rw_ u cl ln K N ns na nb nr np dv) (tA : t_A N ns na nb nr np ru sr st_ en fp pc) (tD : t_A N ns na nb nr np du ds df dt dp dc) :
    ∃ N2 ns2 na2 nb2 nr2 np2 ru2 sr2 st2 en2 fp2 pc2 du2 ds2 df2 dt2 dp2 dc2 dv2 rests2, f_Tree_grow n S_size S_types S_typeRanks R_closed R_used R_sorts R_all R_firsts W_length W_row (nI ln) M_row st (nI N) ru sr st_ en fp pc rests (nI K) (nI u) = some (nI N2, ru2, sr2, st2, en2, fp2, pc2, rests2) ∧ f_Ref_grow n (nI u) (nI N) D_types D_sortOf D_makes D_starts D_told D_row many du ds df dt dp dc dv (nI K) = some (nI N2, du2, ds2, df2, dt2, dp2, dc2, dv2) ∧
      t_inv so ty rk rs fi al rw_ u cl ln (K + 1) N2 ns2 na2 nb2 nr2 np2 dv2 ∧ t_A N2 ns2 na2 nb2 nr2 np2 ru2 sr2 st2 en2 fp2 pc2 ∧ t_A N2 ns2 na2 nb2 nr2 np2 du2 ds2 df2 dt2 dp2 dc2 ∧ ∀ i, i < K → np2 i = np i := by
  have hN := t_inv_N hm hR hu hi
  obtain ⟨i1, tok, i3, i4, i5, i6, i7⟩ := hi
  have h59 := hW.1
  have hcl := hR.1
  have hsz := hm.1
  obtain ⟨k1, k2, A, k3, k4⟩ := tok K hKN
  obtain ⟨sK1, sK2, sK3⟩ := hm.2.2.2.1 _ _ k3
  obtain ⟨a1, a2, a3, a4, a5, a6⟩ := tA K hKN
  obtain ⟨d1, d2, d3, d4, d5, d6⟩ := tD K hKN
  obtain ⟨iK1, iK2⟩ := i3 K (Nat.le_refl _)
  have hrow := hW.2 (na K) (by omega)
  have hdu : du K = -1 := by rw [d1, iK1]; rfl
  have hal := p_alone (n := n) hm ha hW hM (show K < 11700 by omega) a2 a3 a4 sK1 k1 k2
  have hdiff : sm N (t_g so ty rk rs fi al rw_ u K ns na nb) + 1 = sm N (t_g so ty rk rs fi al rw_ u (K + 1) ns na nb) + t_pot so ty rk rs fi al rw_ u (ns K) (na K) (nb K) := by
    have z := sm_diff (f := t_g so ty rk rs fi al rw_ u K ns na nb) (g := t_g so ty rk rs fi al rw_ u (K + 1) ns na nb) hKN (fun i _ hn => by
      unfold t_g
      by_cases y : i < K
      · rw [if_pos y, if_pos (by omega)]
      · rw [if_neg y, if_neg (by omega)])
    have e1 : t_g so ty rk rs fi al rw_ u (K + 1) ns na nb K = 1 := if_pos (Nat.lt_succ_self K)
    have e2 : t_g so ty rk rs fi al rw_ u K ns na nb K = t_pot so ty rk rs fi al rw_ u (ns K) (na K) (nb K) := if_neg (Nat.lt_irrefl K)
    rw [e1, e2] at z
    exact z
  obtain ⟨pot1, pot2⟩ := t_pot_1 hm hR hu k1 k3 (show 0 < m_C ty rk rs fi al rw_ u A (na K) (nb K) by omega)
  by_cases hleaf : nb K = na K + 1 ∧ ty (rw_ (na K)) = some (ns K)
  · rw [if_pos hleaf] at hal
    refine ⟨N, ns, na, nb, nr, np, ru, sr, st_, en, fp, pc, du, ds, df, dt, dp, dc, upd dv K (nI (rw_ (na K))), rests, ?_, ?_, ⟨by omega, tok, fun i hi => i3 i (by omega), ?_, by omega, fun i hi => ?_, fun i hi hn => ?_⟩, tA, tD, fun _ _ => rfl⟩
    · unfold f_Tree_grow
      rw [hal, bind_some, if_neg (show ¬ (1 : Int32) = 0 by decide)]
    · unfold f_Ref_grow
      rw [x_gI (show K < 12000 by omega) (by decide), x_gI (show K < 12000 by omega) (by decide), nI_clamp (show K < 2 ^ 31 by omega), d4, d3, nI_1, if_pos (by rw [hleaf.1]), x_gI (show na K < 59 by omega) (by decide), nI_clamp (show na K < 2 ^ 31 by omega), hv.2 (na K) (by omega), x_gI (show rw_ (na K) < 1000 by omega) (by decide), x_gI (show K < 12000 by omega) (by decide), nI_clamp (show rw_ (na K) < 2 ^ 31 by omega), hd.2.2.1 _ hrow, hleaf.2, d2, oI_some, if_pos rfl, x_gI (show na K < 59 by omega) (by decide), x_gI (show K < 12000 by omega) (by decide)]
    · show N = 1 + (sm K np + np K)
      omega
    · by_cases z : i = K
      · subst z
        exact ⟨fun _ => ⟨hleaf.1, hleaf.2, iK2⟩, fun r hr => by rw [iK1] at hr; cases hr⟩
      · exact i6 i (by omega)
    · by_cases z : i = K
      · rw [z, pk_us]
      · rw [pk_un z]
        exact i7 i (by omega) hn
  · rw [if_neg hleaf] at hal
    -- the rule
    have hwhy := g_C_why (x := rw_) (vt := gvt ty rk) (rs := grs rk rs) (rl := grl fi) (ra := gra fi al) (lim := u) (A := A) k1 (show 0 < m_C ty rk rs fi al rw_ u A (na K) (nb K) by omega)
    have hex : ∃ r, r < u ∧ rs r = ns K ∧ g_sf rw_ (gvt ty rk) (gra fi al) (m_C ty rk rs fi al rw_ u) r (grl fi r) 0 (na K) (nb K) := by
      rcases hwhy with ⟨y1, y2⟩ | ⟨r, y1, y2, y3⟩
      · obtain ⟨t, t1, t2⟩ := gvt_some y2
        have := hm.2.2.2.2 t (ns K) A t2 k3
        rw [this] at t1
        exact absurd ⟨y1, t1⟩ hleaf
      · obtain ⟨-, -, B, hB⟩ := hR.2.2.2.2.2.2.2.2.2 r (Or.inl (by omega))
        have e : grs rk rs r = B := by
          unfold grs
          rw [hB]
          rfl
        rw [← y2, e] at k3
        exact ⟨r, y1, hm.2.2.2.2 _ _ _ hB k3, g_wy_sf0 y3⟩
    obtain ⟨r, ⟨r1, r2, r3⟩, hmin⟩ := pk_least _ hex
    have hmin' : ∀ r', r' < r → ¬ (rs r' = ns K ∧ g_sf rw_ (gvt ty rk) (gra fi al) (m_C ty rk rs fi al rw_ u) r' (grl fi r') 0 (na K) (nb K)) := fun r' y z => hmin r' y ⟨by omega, z.1, z.2⟩
    have hgrs : grs rk rs r = A := by
      unfold grs
      rw [r2, k3]
      rfl
    have hone : g_wy rw_ (gvt ty rk) (gra fi al) (m_C ty rk rs fi al rw_ u) r (grl fi r) (na K) (nb K) ≤ 1 := g_C_rule k1 k4 r1 hgrs
    have h1r := m_fi_us hR (show r < cl by omega)
    have h299 := (hR.2.2.2.1 r (by omega)).2
    have hus := hR.2.1
    have hgl : grl fi r = fi (r + 1) - fi r := rfl
    have hlen := g_sf_len r3
    obtain ⟨rests', hre, hcl1⟩ := p_growL (n := n) hn hm ha hR hA hW hw hu hst r1 k1 k2 (show K < 11700 by omega) sK1 r2 r3 hmin' (nI N) ru sr st_ en fp pc a2 a3 a4 n 0 rests (Nat.zero_le _) (by omega)
    obtain ⟨w57, hrf1⟩ := q_growL57 (n := n) hn hm hd hR hD hW hv hu (fun A k l h => m_C_2 h) hmo r1 k1 k2 (show K < 12000 by omega) sK1 r2 r3 hmin' du ds hdu d2 n 0 (Nat.zero_le _) (by omega)
    have tA' := t_A_set (r := r) iK2 tA
    have tD' := t_A_set (r := r) iK2 tD
    -- the budget
    have hbud : ∃ B : Nat → Nat → Nat, (∀ p m e, p < grl fi r → m < e → e ≤ nb K → 1 ≤ g_wy rw_ (gvt ty rk) (gra fi al) (m_C ty rk rs fi al rw_ u) r p (na K) m → 0 < g_sp rw_ (gvt ty rk) (m_C ty rk rs fi al rw_ u) (gra fi al r p) m e → g_sf rw_ (gvt ty rk) (gra fi al) (m_C ty rk rs fi al rw_ u) r (grl fi r - (p + 1)) (p + 1) e (nb K) → B p m + (match ty (gra fi al r p) with | none => 0 | some t => t_pot so ty rk rs fi al rw_ u t m e) ≤ B (p + 1) e) ∧
        (∀ p m, p ≤ grl fi r → m ≤ nb K → 1 ≤ g_wy rw_ (gvt ty rk) (gra fi al) (m_C ty rk rs fi al rw_ u) r p (na K) m → g_sf rw_ (gvt ty rk) (gra fi al) (m_C ty rk rs fi al rw_ u) r (grl fi r - p) p m (nb K) → sm N (t_g so ty rk rs fi al rw_ u (K + 1) ns na nb) + B p m ≤ 11700) ∧ sm N (t_g so ty rk rs fi al rw_ u (K + 1) ns na nb) + B (grl fi r) (nb K) ≤ 11700 := by
      have potC : ∀ p m e t, p < grl fi r → m < e → 0 < g_sp rw_ (gvt ty rk) (m_C ty rk rs fi al rw_ u) (gra fi al r p) m e → ty (gra fi al r p) = some t → ∃ D, rk t = some D ∧ gvt ty rk (gra fi al r p) = some D ∧ 0 < m_C ty rk rs fi al rw_ u D m e := by
        intro p m e t hp hme hsp ht
        have hs : gra fi al r p < sz := hR.2.2.2.2.2.2.2.2.1 (fi r + p) (by omega)
        obtain ⟨-, -, D, hD2⟩ := hm.2.2.1 _ hs t ht
        have hvt : gvt ty rk (gra fi al r p) = some D := by
          unfold gvt
          rw [ht]
          exact hD2
        unfold g_sp at hsp
        rw [hvt] at hsp
        have hsp2 : 0 < (if m < e then m_C ty rk rs fi al rw_ u D m e else 0) := hsp
        rw [if_pos hme] at hsp2
        exact ⟨D, hD2, hvt, hsp2⟩
      have hpotK : t_pot so ty rk rs fi al rw_ u (ns K) (na K) (nb K) = so * (2 * (nb K - na K) - 2) + g_el rw_ (gvt ty rk) (grs rk rs) (grl fi) (gra fi al) u A (na K) (nb K) := by
        unfold t_pot
        rw [k3]
        rfl
      have hel := g_el_rng (x := rw_) (vt := gvt ty rk) (rs := grs rk rs) (rl := grl fi) (ra := gra fi al) (lim := u) k1 (m_h1 hR hu) (m_hso hm) sK2 (show 0 < g_C rw_ (gvt ty rk) (grs rk rs) (grl fi) (gra fi al) u A (na K) (nb K) from (show 0 < m_C ty rk rs fi al rw_ u A (na K) (nb K) by omega))
      by_cases hL : grl fi r = 1
      · refine ⟨fun p _ => if p = 0 then 0 else t_pot so ty rk rs fi al rw_ u (ns K) (na K) (nb K) - 1, fun p m e hp hme he hwy hsp hsf => ?_, fun p m hp _ _ _ => ?_, ?_⟩
        · have ep : p = 0 := by omega
          subst ep
          rw [hL] at hsf
          have eb : e = nb K := hsf
          have ea : na K = m := by
            have hwy' : 1 ≤ (if na K = m then 1 else 0) := hwy
            by_cases y : na K = m
            · exact y
            · rw [if_neg y] at hwy'; omega
          show (if (0 : Nat) = 0 then 0 else _) + _ ≤ (if (0 + 1 : Nat) = 0 then 0 else t_pot so ty rk rs fi al rw_ u (ns K) (na K) (nb K) - 1)
          rw [if_pos rfl, if_neg (by omega), Nat.zero_add]
          cases ht : ty (gra fi al r 0) with
          | none => exact Nat.zero_le _
          | some t =>
            obtain ⟨D, q1, q2, q3⟩ := potC 0 m e t (by omega) hme hsp ht
            rw [← ea, eb] at q3 ⊢
            have lt := g_el_lt (x := rw_) (vt := gvt ty rk) (rs := grs rk rs) (rl := grl fi) (ra := gra fi al) (lim := u) k1 (m_h1 hR hu) (m_hso hm) k4 r1 hgrs hL q2 q3
            show t_pot so ty rk rs fi al rw_ u t (na K) (nb K) ≤ _
            rw [hpotK]
            unfold t_pot
            rw [q1]
            show so * (2 * (nb K - na K) - 2) + g_el rw_ (gvt ty rk) (grs rk rs) (grl fi) (gra fi al) u D (na K) (nb K) ≤ _
            omega
        · show _ + (if p = 0 then 0 else t_pot so ty rk rs fi al rw_ u (ns K) (na K) (nb K) - 1) ≤ 11700
          by_cases y : p = 0
          · rw [if_pos y]; omega
          · rw [if_neg y]; omega
        · show _ + (if grl fi r = 0 then 0 else t_pot so ty rk rs fi al rw_ u (ns K) (na K) (nb K) - 1) ≤ 11700
          rw [if_neg (by omega)]
          omega
      · have bound : ∀ x, x ≤ 2 * (nb K - na K) - 2 → sm N (t_g so ty rk rs fi al rw_ u (K + 1) ns na nb) + so * x ≤ 11700 := fun x hx => by
          have := Nat.mul_le_mul_left so hx
          omega
        refine ⟨fun p m => so * (2 * (m - na K) - p), fun p m e hp hme he hwy hsp hsf => ?_, fun p m hp hmb hwy hsf => ?_, ?_⟩
        · have hpm : na K + p ≤ m := by
            rcases Nat.lt_or_ge m (na K + p) with y | y
            · rw [g_wy_0 y] at hwy; omega
            · exact y
          show so * (2 * (m - na K) - p) + _ ≤ so * (2 * (e - na K) - (p + 1))
          have e1 : 2 * (e - na K) - (p + 1) = (2 * (m - na K) - p) + (2 * (e - m) - 1) := by omega
          rw [e1, Nat.mul_add]
          refine Nat.add_le_add_left ?_ _
          cases ht : ty (gra fi al r p) with
          | none => exact Nat.zero_le _
          | some t =>
            obtain ⟨D, q1, q2, q3⟩ := potC p m e t hp hme hsp ht
            exact (t_pot_1 hm hR hu hme q1 q3).2
        · have hpm : na K + p ≤ m := by
            rcases Nat.lt_or_ge m (na K + p) with y | y
            · rw [g_wy_0 y] at hwy; omega
            · exact y
          have := g_sf_len hsf
          exact bound _ (by omega)
        · exact bound _ (by omega)
    obtain ⟨B, hB1, hB2, hB3⟩ := hbud
    have hpc0 : t_pc ty fi al r 0 = 0 := rfl
    obtain ⟨w1, w2, w3, w4, N2, ns2, na2, nb2, ap2, ru2, sr2, st2, en2, fp2, pc2, du2, ds2, df2, dt2, dp2, dc2, dv2, f1, f2, f3, f4, f5, f6, f7, f8, f9, f10, f11⟩ := parts_loop (n := n) hn hm ha hd hR hA hD hW hw hv hu hst hmo r1 k2 hKN rests' hre hone nr np i3 i4 _ B hB1 hB2 n 0 (na K) N 0 ns na nb (fun _ => na K) (upd ru K (nI r)) sr st_ en fp pc (upd du K (nI r)) ds df dt dp dc dv (Nat.zero_le _) (by omega) (by omega) (by show 1 ≤ (if na K = na K then 1 else 0); rw [if_pos rfl]; exact Nat.le_refl _) (by rw [Nat.sub_zero]; exact r3) hpc0.symm (by omega) tA' tD' tok (Nat.le_add_right _ _) rfl rfl (fun q hq => absurd hq (Nat.not_lt_zero _))
    have f1' : f_Tree_appendParts_L36 n (nI (grl fi r)) (nI (fi r)) (nI K) S_size S_types S_typeRanks R_used R_all W_length W_row (nI ln) st rests' n 0 (nI (na K)) (nI N) (upd ru K (nI r)) sr st_ en fp pc = some (w1, w2, nI N2, ru2, sr2, st2, en2, fp2, pc2) := f1
    have f2' : f_Ref_grow_L136 n (nI (nb K)) (nI K) D_types D_sortOf D_starts D_told D_row many n 0 (nI (na K)) (nI N) (upd du K (nI r)) ds df dt dp dc dv = some (w3, w4, nI N2, du2, ds2, df2, dt2, dp2, dc2, dv2) := f2
    have hcl1' : f_Tree_grow_L11 n (nI K) (nI u) S_size S_types S_typeRanks R_closed R_used R_sorts R_all R_firsts W_length W_row (nI ln) st n 0 (nI N) ru sr st_ en fp pc rests = _ := hcl1
    have hrf1' : f_Ref_grow_L57 n (nI (nb K)) (nI (na K)) (nI K) (nI u) D_types D_sortOf D_makes D_starts D_told D_row many ds n 0 du = some (w57, upd du K (nI r)) := hrf1
    have hN2 : N ≤ N2 := by omega
    refine ⟨N2, ns2, na2, nb2, fun i => if i = K then some r else nr i, m_up np K (t_pc ty fi al r (grl fi r)), ru2, sr2, st2, en2, fp2, pc2, du2, ds2, df2, dt2, dp2, dc2, dv2, rests', ?_, ?_, ⟨by omega, f6, fun i hi => ?_, ?_, by omega, fun i hi => ?_, fun i hi hnn => ?_⟩, f4, f5, fun i hi => m_up_n (by omega)⟩
    · unfold f_Tree_grow
      rw [hal, bind_some, if_pos rfl, hcl1']
      unfold f_Tree_appendParts
      rw [p_firstOf hR hA (by omega), bind_some, p_lengthOf hR hA (by omega), bind_some, x_gI (show K < 11700 by omega) (by decide), nI_clamp (show K < 2 ^ 31 by omega), a3, if_neg (by rw [show (299 : Int32) = nI 299 from rfl, i_lt (by omega) (by decide)]; omega), f1', bind_some, bind_some]
    · unfold f_Ref_grow
      rw [x_gI (show K < 12000 by omega) (by decide), x_gI (show K < 12000 by omega) (by decide), nI_clamp (show K < 2 ^ 31 by omega), d4, d3, nI_1]
      by_cases z : nb K = na K + 1
      · have hno : ¬ ty (rw_ (na K)) = some (ns K) := fun y => hleaf ⟨z, y⟩
        rw [if_pos (by rw [z]), x_gI (show na K < 59 by omega) (by decide), nI_clamp (show na K < 2 ^ 31 by omega), hv.2 (na K) (by omega), x_gI (show rw_ (na K) < 1000 by omega) (by decide), x_gI (show K < 12000 by omega) (by decide), nI_clamp (show rw_ (na K) < 2 ^ 31 by omega), hd.2.2.1 _ hrow, d2, if_neg (by
          cases ht : ty (rw_ (na K)) with
          | none => rw [oI_none, i_m1' (by omega)]; exact id
          | some t =>
            rw [oI_some, i_eq (by omega) (hm.ty_lt hrow ht)]
            intro y
            rw [y] at ht
            exact hno ht), hrf1', bind_some]
        show ((f_Ref_grow_L136 n (nI (nb K)) (nI K) D_types D_sortOf D_starts D_told D_row many n 0 (nI (na K)) (nI N) (upd du K (nI r)) ds df dt dp dc dv).bind _) = _
        rw [f2', bind_some]
      · rw [if_neg (by rw [i_eq (by omega) (by omega)]; exact z), hrf1', bind_some]
        show ((f_Ref_grow_L136 n (nI (nb K)) (nI K) D_types D_sortOf D_starts D_told D_row many n 0 (nI (na K)) (nI N) (upd du K (nI r)) ds df dt dp dc dv).bind _) = _
        rw [f2', bind_some]
    · obtain ⟨y1, y2⟩ := i3 i (by omega)
      refine ⟨?_, ?_⟩
      · show (if i = K then some r else nr i) = none
        rw [if_neg (by omega), y1]
      · rw [m_up_n (by omega), y2]
    · show N2 = 1 + (sm K (m_up np K (t_pc ty fi al r (grl fi r))) + m_up np K (t_pc ty fi al r (grl fi r)) K)
      rw [m_up_s, sm_congr (f := m_up np K (t_pc ty fi al r (grl fi r))) (g := np) (fun j hj => m_up_n (by omega))]
      omega
    · by_cases z : i = K
      · subst z
        obtain ⟨g1, g2, g3, -⟩ := f11 i hKN
        refine ⟨fun y => ?_, fun r' y => ?_⟩
        · have y' : (if i = i then some r else nr i) = none := y
          rw [if_pos rfl] at y'
          cases y'
        · have y' : (if i = i then some r else nr i) = some r' := y
          rw [if_pos rfl] at y'
          have er : r = r' := Option.some.inj y'
          subst er
          rw [m_up_s, g1, g2, g3, sm_congr (f := m_up np i (t_pc ty fi al r (grl fi r))) (g := np) (fun j hj => m_up_n (by omega)), ← i4]
          exact ⟨by omega, r2, rfl, ap2, f8, f9, f10⟩
      · refine t_node_up (show i < N by omega) hN2 (fun j hj => ⟨(f11 j hj).1, (f11 j hj).2.1, (f11 j hj).2.2.1⟩) ?_ (fun j hj => m_up_n (by omega)) (i6 i (by omega))
        show (if i = K then some r else nr i) = nr i
        rw [if_neg z]
    · have y' : (if i = K then some r else nr i) = none := hnn
      by_cases z : i = K
      · rw [if_pos z] at y'; cases y'
      · rw [if_neg z] at y'
        obtain ⟨-, g2, -, g4⟩ := f11 i (by omega)
        rw [g4, g2]
        exact i7 i (by omega) y'
end GW
