/-! A node gets its parts: class and reference alike -/
/-- the nodes' arrays, of the class or of the reference -/
def t_A (N : Nat) (ns na nb : Nat → Nat) (nr : Nat → Option Nat) (np : Nat → Nat) (ru sr st_ en fp pc : Nat → Int32) : Prop := ∀ i, i < N → ru i = oI (nr i) ∧ sr i = nI (ns i) ∧ st_ i = nI (na i) ∧ en i = nI (nb i) ∧ fp i = (if np i = 0 then -1 else nI (1 + sm i np)) ∧ pc i = nI (np i)
/-- each node has just one tree -/
def t_ok (ty rk : Nat → Option Nat) (rs fi al rw_ : Nat → Nat) (u ln N : Nat) (ns na nb : Nat → Nat) : Prop := ∀ i, i < N → na i < nb i ∧ nb i ≤ ln ∧ ∃ A, rk (ns i) = some A ∧ m_C ty rk rs fi al rw_ u A (na i) (nb i) = 1
/-- how many nodes may stand in a node -/
noncomputable def t_pot (so : Nat) (ty rk : Nat → Option Nat) (rs fi al rw_ : Nat → Nat) (u s a b : Nat) : Nat := so * (2 * (b - a) - 2) + g_el rw_ (gvt ty rk) (grs rk rs) (grl fi) (gra fi al) u ((rk s).getD 0) a b
noncomputable def t_g (so : Nat) (ty rk : Nat → Option Nat) (rs fi al rw_ : Nat → Nat) (u K : Nat) (ns na nb : Nat → Nat) (i : Nat) : Nat := if i < K then 1 else t_pot so ty rk rs fi al rw_ u (ns i) (na i) (nb i)
/-- how many variables a rule has before a place -/
def t_pc (ty : Nat → Option Nat) (fi al : Nat → Nat) (r p : Nat) : Nat := sm p (fun q => if ty (al (fi r + q)) = none then 0 else 1)
def t_cond (ty : Nat → Option Nat) (fi al rw_ : Nat → Nat) (ln N0 N : Nat) (ns na nb : Nat → Nat) (r : Nat) (ap : Nat → Nat) (p : Nat) : Prop :=
  (ty (al (fi r + p)) = none → ap (p + 1) = ap p + 1 ∧ ap p < ln ∧ rw_ (ap p) = al (fi r + p)) ∧ (∀ t, ty (al (fi r + p)) = some t → N0 + t_pc ty fi al r p < N ∧ ns (N0 + t_pc ty fi al r p) = t ∧ na (N0 + t_pc ty fi al r p) = ap p ∧ nb (N0 + t_pc ty fi al r p) = ap (p + 1))
theorem sm_1le : ∀ {N : Nat} {f : Nat → Nat}, (∀ i, i < N → 1 ≤ f i) → N ≤ sm N f
  | 0, _, _ => Nat.le_refl _
  | N + 1, f, h => Nat.add_le_add (sm_1le (fun i hi => h i (Nat.lt_succ_of_lt hi))) (h N (Nat.lt_succ_self N))
section PL
variable {n sz so : Nat} {ty rk : Nat → Option Nat} {cl us : Nat} {op : Bool} {rs fi al : Nat → Nat} {S_size S_sorts : Int32} {S_types S_ranks S_typeRanks : Nat → Int32} {R_closed R_used R_isOpen : Int32} {R_sorts R_all R_firsts R_newestWraps R_olderWraps : Nat → Int32} {ln : Nat} {rw_ : Nat → Nat} {W_length : Int32} {W_row : Nat → Int32} {D_symbols D_sorts : Int32} {D_types D_sortOf : Nat → Int32} {D_rules D_isOpen D_all : Int32} {D_makes D_starts D_told : Nat → Int32} {D_length : Int32} {D_row : Nat → Int32} {u : Nat} {st sv : Nat → Int64} {many : Nat → Int32}
theorem m_h1 (hR : m_R sz ty rk cl us op rs fi al) (hu : u ≤ cl) : ∀ r, r < u → 1 ≤ grl fi r := fun r hr => by
  have := m_fi_us hR (show r < cl by omega)
  show 1 ≤ fi (r + 1) - fi r
  omega
theorem m_hso (hm : m_S sz so ty rk) : ∀ r, r < u → ∀ B, gvt ty rk (gra fi al r 0) = some B → B < so := fun _ _ _ h => gvt_lt hm h
theorem t_pot_1 (hm : m_S sz so ty rk) (hR : m_R sz ty rk cl us op rs fi al) (hu : u ≤ cl) {s A a b : Nat} (hab : a < b) (hk : rk s = some A) (hC : 0 < m_C ty rk rs fi al rw_ u A a b) : 1 ≤ t_pot so ty rk rs fi al rw_ u s a b ∧ t_pot so ty rk rs fi al rw_ u s a b ≤ so * (2 * (b - a) - 1) := by
  have hA := (hm.2.2.2.1 s A hk).2.1
  obtain ⟨k1, k2⟩ := g_el_rng (x := rw_) (vt := gvt ty rk) (rs := grs rk rs) (rl := grl fi) (ra := gra fi al) (lim := u) hab (m_h1 hR hu) (m_hso hm) hA hC
  unfold t_pot
  rw [hk]
  show 1 ≤ so * (2 * (b - a) - 2) + g_el rw_ (gvt ty rk) (grs rk rs) (grl fi) (gra fi al) u A a b ∧ so * (2 * (b - a) - 2) + g_el rw_ (gvt ty rk) (grs rk rs) (grl fi) (gra fi al) u A a b ≤ so * (2 * (b - a) - 1)
  have e : 2 * (b - a) - 1 = (2 * (b - a) - 2) + 1 := by omega
  rw [e, Nat.mul_add, Nat.mul_one]
  omega
/-- one step of the class's loop and of the reference's, for a constant -/
theorem parts_loop (hn : 40000 ≤ n) (hm : m_S sz so ty rk) (ha : a_S sz so ty rk S_size S_sorts S_types S_ranks S_typeRanks) (hd : d_S sz so ty rk D_symbols D_sorts D_types D_sortOf) (hR : m_R sz ty rk cl us op rs fi al) (hA : a_R ty rk cl us op rs fi al R_closed R_used R_isOpen R_sorts R_all R_firsts R_newestWraps R_olderWraps) (hD : d_R cl us op rs fi al D_rules D_isOpen D_all D_makes D_starts D_told) (hW : m_W sz ln rw_) (hw : a_W ln rw_ W_length W_row) (hv : a_W ln rw_ D_length D_row) (hu : u ≤ cl)
    (hst : c_done (m_C ty rk rs fi al rw_ u) so ln 0 st sv) (hmo : d_mok (m_C ty rk rs fi al rw_ u) so ln 0 many) {r a b K N0 : Nat} (hr : r < u) (hb : b ≤ ln) (hKN : K < N0) (rests : Nat → Int64) (hre : ∀ q, q ≤ grl fi r → c_re ty rk fi al rw_ (m_C ty rk rs fi al rw_ u) r b q (rests q))
    (hone : g_wy rw_ (gvt ty rk) (gra fi al) (m_C ty rk rs fi al rw_ u) r (grl fi r) a b ≤ 1)
    (nr : Nat → Option Nat) (np : Nat → Nat) (hnr : ∀ i, K ≤ i → nr i = none ∧ np i = 0) (hN0 : N0 = 1 + sm K np)
    (S0 : Nat) (B : Nat → Nat → Nat)
    (hB : ∀ p m e, p < grl fi r → m < e → e ≤ b → 1 ≤ g_wy rw_ (gvt ty rk) (gra fi al) (m_C ty rk rs fi al rw_ u) r p a m → 0 < g_sp rw_ (gvt ty rk) (m_C ty rk rs fi al rw_ u) (gra fi al r p) m e → g_sf rw_ (gvt ty rk) (gra fi al) (m_C ty rk rs fi al rw_ u) r (grl fi r - (p + 1)) (p + 1) e b → B p m + (match ty (gra fi al r p) with | none => 0 | some t => t_pot so ty rk rs fi al rw_ u t m e) ≤ B (p + 1) e)
    (hB2 : ∀ p m, p ≤ grl fi r → m ≤ b → 1 ≤ g_wy rw_ (gvt ty rk) (gra fi al) (m_C ty rk rs fi al rw_ u) r p a m → g_sf rw_ (gvt ty rk) (gra fi al) (m_C ty rk rs fi al rw_ u) r (grl fi r - p) p m b → S0 + B p m ≤ 11700) :
    ∀ (k p m N cnt : Nat) (ns na nb ap : Nat → Nat) (ru sr st_ en fp pc : Nat → Int32) (du ds df dt dp dc dv : Nat → Int32), p ≤ grl fi r → grl fi r - p < k → m ≤ b → 1 ≤ g_wy rw_ (gvt ty rk) (gra fi al) (m_C ty rk rs fi al rw_ u) r p a m → g_sf rw_ (gvt ty rk) (gra fi al) (m_C ty rk rs fi al rw_ u) r (grl fi r - p) p m b →
      cnt = t_pc ty fi al r p → N = N0 + cnt → t_A N ns na nb (fun i => if i = K then some r else nr i) (m_up np K cnt) ru sr st_ en fp pc → t_A N ns na nb (fun i => if i = K then some r else nr i) (m_up np K cnt) du ds df dt dp dc →
      t_ok ty rk rs fi al rw_ u ln N ns na nb → sm N (t_g so ty rk rs fi al rw_ u (K + 1) ns na nb) ≤ S0 + B p m → ap 0 = a → ap p = m → (∀ q, q < p → t_cond ty fi al rw_ ln N0 N ns na nb r ap q) →
      ∃ w1 w2 w3 w4 N2 ns2 na2 nb2 ap2 ru2 sr2 st2 en2 fp2 pc2 du2 ds2 df2 dt2 dp2 dc2 dv2, f_Tree_appendParts_L36 n (nI (grl fi r)) (nI (fi r)) (nI K) S_size S_types S_typeRanks R_used R_all W_length W_row (nI ln) st rests k (nI p) (nI m) (nI N) ru sr st_ en fp pc = some (w1, w2, nI N2, ru2, sr2, st2, en2, fp2, pc2) ∧
        f_Ref_grow_L136 n (nI b) (nI K) D_types D_sortOf D_starts D_told D_row many k (nI p) (nI m) (nI N) du ds df dt dp dc dv = some (w3, w4, nI N2, du2, ds2, df2, dt2, dp2, dc2, dv2) ∧
        N2 = N0 + t_pc ty fi al r (grl fi r) ∧ t_A N2 ns2 na2 nb2 (fun i => if i = K then some r else nr i) (m_up np K (t_pc ty fi al r (grl fi r))) ru2 sr2 st2 en2 fp2 pc2 ∧ t_A N2 ns2 na2 nb2 (fun i => if i = K then some r else nr i) (m_up np K (t_pc ty fi al r (grl fi r))) du2 ds2 df2 dt2 dp2 dc2 ∧
        t_ok ty rk rs fi al rw_ u ln N2 ns2 na2 nb2 ∧ sm N2 (t_g so ty rk rs fi al rw_ u (K + 1) ns2 na2 nb2) ≤ S0 + B (grl fi r) b ∧ ap2 0 = a ∧ ap2 (grl fi r) = b ∧ (∀ q, q < grl fi r → t_cond ty fi al rw_ ln N0 N2 ns2 na2 nb2 r ap2 q) ∧ (∀ i, i < N → ns2 i = ns i ∧ na2 i = na i ∧ nb2 i = nb i ∧ dv2 i = dv i) := by
  have h59 := hW.1
  have hcl := hR.1
  have hsz := hm.1
  have h1 := m_fi_us hR (show r < cl by omega)
  have hus := hR.2.1
  have h299 := (hR.2.2.2.1 r (by omega)).2
  have hgl : grl fi r = fi (r + 1) - fi r := rfl
  have hc : ∀ A k l, k < l → m_C ty rk rs fi al rw_ u A k l ≤ 2 := fun A k l h => m_C_2 h
  intro k
  induction k with
  | zero => intro p m N cnt ns na nb ap ru sr st_ en fp pc du ds df dt dp dc dv _ h; exact absurd h (Nat.not_lt_zero _)
  | succ k ih =>
    intro p m N cnt ns na nb ap ru sr st_ en fp pc du ds df dt dp dc dv hp hk hmb hwy hsf hcnt hN tA tD tok hsum hap0 hapm hcond
    have hNs : N ≤ 11700 := by
      have z1 : N ≤ sm N (t_g so ty rk rs fi al rw_ u (K + 1) ns na nb) := sm_1le (fun i hi => by
        obtain ⟨y1, y2, A, y3, y4⟩ := tok i hi
        unfold t_g
        by_cases z : i < K + 1
        · rw [if_pos z]; exact Nat.le_refl _
        · rw [if_neg z]
          exact (t_pot_1 hm hR hu y1 y3 (by omega)).1)
      have z2 := hB2 p m hp hmb hwy hsf
      omega
    have hK1 : K < N := by omega
    obtain ⟨aK1, -, -, -, aK5, aK6⟩ := tA K hK1
    obtain ⟨dK1, -, -, -, dK5, dK6⟩ := tD K hK1
    have eK1 : ru K = nI r := by rw [aK1]; show oI (if K = K then some r else nr K) = _; rw [if_pos rfl]; rfl
    have fK1 : du K = nI r := by rw [dK1]; show oI (if K = K then some r else nr K) = _; rw [if_pos rfl]; rfl
    rw [m_up_s] at aK6 dK6 aK5 dK5
    have smK : ∀ v, sm K (m_up np K v) = sm K np := fun v => sm_congr (fun i hi => m_up_n (by omega))
    rw [smK, ← hN0] at aK5 dK5
    rw [f_Tree_appendParts_L36, f_Ref_grow_L136, x_gI (show K < 12000 by omega) (by decide), nI_clamp (show K < 2 ^ 31 by omega), fK1, q_lengthOf hR hD (by omega), bind_some]
    by_cases h : grl fi r ≤ p
    · have e : p = grl fi r := by omega
      subst e
      rw [if_pos (by rw [i_le (by omega) (by omega)]; exact h), if_pos (by rw [i_le (by omega) (by omega)]; exact h)]
      rw [Nat.sub_self] at hsf
      have hmb2 : m = b := hsf
      subst hmb2
      refine ⟨_, _, _, _, N, ns, na, nb, ap, ru, sr, st_, en, fp, pc, du, ds, df, dt, dp, dc, dv, rfl, rfl, by rw [hN, hcnt], ?_, ?_, tok, hsum, hap0, hapm, hcond, fun i _ => ⟨rfl, rfl, rfl, rfl⟩⟩
      · rw [← hcnt]; exact tA
      · rw [← hcnt]; exact tD
    · have hs : gra fi al r p < sz := hR.2.2.2.2.2.2.2.2.1 (fi r + p) (by omega)
      have hga : gra fi al r p = al (fi r + p) := rfl
      -- the end of this symbol
      have hsf' := hsf
      rw [show grl fi r - p = (grl fi r - (p + 1)) + 1 by omega] at hsf'
      obtain ⟨e, ⟨he1, he2, he3, he4⟩, hmin⟩ := pk_least (fun e => m < e ∧ e ≤ b ∧ 0 < g_sp rw_ (gvt ty rk) (m_C ty rk rs fi al rw_ u) (gra fi al r p) m e ∧ g_sf rw_ (gvt ty rk) (gra fi al) (m_C ty rk rs fi al rw_ u) r (grl fi r - (p + 1)) (p + 1) e b) hsf'
      have hmin' : ∀ e', m < e' → e' < e → ¬ (g_sf rw_ (gvt ty rk) (gra fi al) (m_C ty rk rs fi al rw_ u) r (grl fi r - (p + 1)) (p + 1) e' b ∧ 0 < g_sp rw_ (gvt ty rk) (m_C ty rk rs fi al rw_ u) (gra fi al r p) m e') := fun e' y1 y2 y3 => hmin e' y2 ⟨y1, by omega, y3.2, y3.1⟩
      have hrep := hre (p + 1) (by omega)
      have cend := p_endAmong (n := n) hn hm ha hW hw hst hs (rests (p + 1)) (show e ≤ ln by omega) ((hrep e).mpr he4) he3 he1 (fun e' y1 y2 y3 => hmin' e' y1 y2 ⟨(hrep e').mp y3.1, y3.2⟩)
      have rend := q_growL178 (n := n) hn hm hd hR hD hW hv hc hmo (show r < cl by omega) hb (show p < grl fi r by omega) (show K < 12000 by omega) fK1 he1 he2 he3 he4 hmin' n (m + 1) (by omega) (by omega) (by omega) (fun _ => rfl)
      have hwy1 : g_wy rw_ (gvt ty rk) (gra fi al) (m_C ty rk rs fi al rw_ u) r p a m * g_sp rw_ (gvt ty rk) (m_C ty rk rs fi al rw_ u) (gra fi al r p) m e ≤ g_wy rw_ (gvt ty rk) (gra fi al) (m_C ty rk rs fi al rw_ u) r (p + 1) a e := g_wy_step he1
      have hwy2 : g_sp rw_ (gvt ty rk) (m_C ty rk rs fi al rw_ u) (gra fi al r p) m e ≤ g_wy rw_ (gvt ty rk) (gra fi al) (m_C ty rk rs fi al rw_ u) r (p + 1) a e := by
        refine Nat.le_trans ?_ hwy1
        have := Nat.mul_le_mul_right (g_sp rw_ (gvt ty rk) (m_C ty rk rs fi al rw_ u) (gra fi al r p) m e) hwy
        rw [Nat.one_mul] at this
        exact this
      have hspone : g_sp rw_ (gvt ty rk) (m_C ty rk rs fi al rw_ u) (gra fi al r p) m e ≤ 1 := by
        have z := g_sf_wy (a := a) he4 hwy2
        rw [show p + 1 + (grl fi r - (p + 1)) = grl fi r by omega] at z
        omega
      have hbud := hB p m e (by omega) he1 he2 hwy he3 he4
      rw [if_neg (by rw [i_le (by omega) (by omega)]; exact h), if_neg (by rw [i_le (by omega) (by omega)]; exact h), i_add, p_symAt hA hus (by omega), bind_some, nI_1, x_gI (show p + 1 < 300 by omega) (by decide), nI_clamp (show p + 1 < 2 ^ 31 by omega), ← hga, cend, bind_some, p_isV hm ha hs, bind_some]
      rw [x_gI (show K < 12000 by omega) (by decide), x_gI (show r < 1501 by omega) (by decide), nI_clamp (show r < 2 ^ 31 by omega), hD.2.2.2.2.1 r (by omega), i_add, x_gI (show fi r + p < 30000 by omega) (by decide), nI_clamp (show fi r + p < 2 ^ 31 by omega), hD.2.2.2.2.2 (fi r + p) (by omega), ← hga, nI_1, rend, bind_some, x_gI (show gra fi al r p < 1000 by omega) (by decide), nI_clamp (show gra fi al r p < 2 ^ 31 by omega), hd.2.2.1 _ hs]
      cases hg : ty (gra fi al r p) with
      | none =>
        rw [if_pos rfl, if_pos rfl, oI_none, if_pos rfl]
        have hvt := (gvt_none hm hs).mpr hg
        have hpc : t_pc ty fi al r (p + 1) = t_pc ty fi al r p := by
          show sm p _ + (if ty (al (fi r + p)) = none then 0 else 1) = _
          rw [if_pos (show ty (al (fi r + p)) = none from hg)]
          rfl
        have hsp' := he3
        unfold g_sp at hsp'
        rw [hvt] at hsp'
        have hsp2 : 0 < (if e = m + 1 ∧ rw_ m = gra fi al r p then 1 else 0) := hsp'
        have hze : e = m + 1 ∧ rw_ m = gra fi al r p := by
          by_cases z : e = m + 1 ∧ rw_ m = gra fi al r p
          · exact z
          · rw [if_neg z] at hsp2; omega
        rw [hg] at hbud
        have hbud' : B p m + 0 ≤ B (p + 1) e := hbud
        have hres := ih (p + 1) e N cnt ns na nb (m_up ap (p + 1) e) ru sr st_ en fp pc du ds df dt dp dc dv (by omega) (by omega) he2 (by omega) he4 (by rw [hpc]; exact hcnt) hN tA tD tok (by omega) (by rw [m_up_n (by omega)]; exact hap0) m_up_s (fun q hq => by
          by_cases z : q = p
          · subst z
            refine ⟨fun _ => ?_, fun t ht => ?_⟩
            · rw [m_up_s, m_up_n (by omega), hapm]
              exact ⟨hze.1, by omega, hze.2⟩
            · rw [← hga, hg] at ht; cases ht
          · obtain ⟨c1, c2⟩ := hcond q (by omega)
            refine ⟨fun y => ?_, fun t y => ?_⟩
            · rw [m_up_n (show q + 1 ≠ p + 1 by omega), m_up_n (show q ≠ p + 1 by omega)]; exact c1 y
            · rw [m_up_n (show q + 1 ≠ p + 1 by omega), m_up_n (show q ≠ p + 1 by omega)]; exact c2 t y)
        exact hres
      | some t =>
        rw [if_neg (by simp), p_typeOf hm ha hs, bind_some, hg, oI_some]
        have ht31 := hm.ty_lt hs hg
        obtain ⟨-, -, A, hk2⟩ := hm.2.2.1 _ hs t hg
        have hvt : gvt ty rk (gra fi al r p) = some A := by
          unfold gvt
          rw [hg]
          exact hk2
        have hspC : g_sp rw_ (gvt ty rk) (m_C ty rk rs fi al rw_ u) (gra fi al r p) m e = m_C ty rk rs fi al rw_ u A m e := by
          unfold g_sp
          rw [hvt]
          exact if_pos he1
        have hC1 : m_C ty rk rs fi al rw_ u A m e = 1 := by omega
        have hpc : t_pc ty fi al r (p + 1) = t_pc ty fi al r p + 1 := by
          show sm p _ + (if ty (al (fi r + p)) = none then 0 else 1) = _
          rw [if_neg (by rw [← hga, hg]; simp)]
          rfl
        rw [hg] at hbud
        have hbud' : B p m + t_pot so ty rk rs fi al rw_ u t m e ≤ B (p + 1) e := hbud
        have hsfe := hB2 (p + 1) e (by omega) he2 (by omega) he4
        have tgN : sm (N + 1) (t_g so ty rk rs fi al rw_ u (K + 1) (m_up ns N t) (m_up na N m) (m_up nb N e)) = sm N (t_g so ty rk rs fi al rw_ u (K + 1) ns na nb) + t_pot so ty rk rs fi al rw_ u t m e := by
          show sm N _ + t_g so ty rk rs fi al rw_ u (K + 1) (m_up ns N t) (m_up na N m) (m_up nb N e) N = _
          rw [sm_congr (g := t_g so ty rk rs fi al rw_ u (K + 1) ns na nb) (fun i hi => by unfold t_g; rw [m_up_n (by omega), m_up_n (by omega), m_up_n (by omega)])]
          congr 1
          unfold t_g
          rw [if_neg (by omega), m_up_s, m_up_s, m_up_s]
        have tok2 : t_ok ty rk rs fi al rw_ u ln (N + 1) (m_up ns N t) (m_up na N m) (m_up nb N e) := fun i hi => by
          by_cases z : i = N
          · subst z
            rw [m_up_s, m_up_s, m_up_s]
            exact ⟨he1, by omega, A, hk2, hC1⟩
          · rw [m_up_n z, m_up_n z, m_up_n z]
            exact tok i (by omega)
        have hN1 : N + 1 ≤ 11700 := by
          have z1 : N + 1 ≤ sm (N + 1) (t_g so ty rk rs fi al rw_ u (K + 1) (m_up ns N t) (m_up na N m) (m_up nb N e)) := sm_1le (fun i hi => by
            obtain ⟨y1, y2, A, y3, y4⟩ := tok2 i hi
            unfold t_g
            by_cases z : i < K + 1
            · rw [if_pos z]; exact Nat.le_refl _
            · rw [if_neg z]
              exact (t_pot_1 hm hR hu y1 y3 (by omega)).1)
          omega
        have cond2 : ∀ q, q < p + 1 → t_cond ty fi al rw_ ln N0 (N + 1) (m_up ns N t) (m_up na N m) (m_up nb N e) r (m_up ap (p + 1) e) q := fun q hq => by
          by_cases z : q = p
          · subst z
            refine ⟨fun y => ?_, fun t' ht' => ?_⟩
            · rw [← hga, hg] at y; cases y
            · rw [← hga, hg] at ht'
              have et : t = t' := Option.some.inj ht'
              have eN : N0 + t_pc ty fi al r q = N := by omega
              rw [eN, m_up_s, m_up_s, m_up_s, m_up_s, m_up_n (show q ≠ q + 1 by omega), hapm]
              exact ⟨by omega, et, rfl, rfl⟩
          · obtain ⟨c1, c2⟩ := hcond q (by omega)
            refine ⟨fun y => ?_, fun t' y => ?_⟩
            · rw [m_up_n (show q + 1 ≠ p + 1 by omega), m_up_n (show q ≠ p + 1 by omega)]; exact c1 y
            · obtain ⟨d1, d2, d3, d4⟩ := c2 t' y
              rw [m_up_n (show q + 1 ≠ p + 1 by omega), m_up_n (show q ≠ p + 1 by omega), m_up_n (by omega), m_up_n (by omega), m_up_n (by omega)]
              exact ⟨by omega, d2, d3, d4⟩
        -- arrays after one more part
        have arr : ∀ ru sr st_ en fp pc : Nat → Int32, t_A N ns na nb (fun i => if i = K then some r else nr i) (m_up np K cnt) ru sr st_ en fp pc → ∀ ru' sr' st' en' fp' pc' : Nat → Int32, (∀ i, i < N → ru' i = ru i ∧ sr' i = sr i ∧ st' i = st_ i ∧ en' i = en i) → ru' N = -1 → sr' N = nI t → st' N = nI m → en' N = nI e → fp' N = -1 → pc' N = 0 → fp' K = nI N0 → pc' K = nI (cnt + 1) → (∀ i, i < N → i ≠ K → fp' i = fp i ∧ pc' i = pc i) →
            t_A (N + 1) (m_up ns N t) (m_up na N m) (m_up nb N e) (fun i => if i = K then some r else nr i) (m_up np K (cnt + 1)) ru' sr' st' en' fp' pc' := by
          intro ru sr st_ en fp pc tA ru' sr' st' en' fp' pc' q1 q2 q3 q4 q5 q6 q7 q8 q9 q10 i hi
          by_cases z : i = N
          · subst z
            rw [m_up_s, m_up_s, m_up_s, m_up_n (show i ≠ K by omega), (hnr i (by omega)).2, if_pos rfl]
            refine ⟨?_, q3, q4, q5, q6, q7⟩
            rw [q2]
            show _ = oI (if i = K then some r else nr i)
            rw [if_neg (by omega), (hnr i (by omega)).1]
            rfl
          · obtain ⟨b1, b2, b3, b4, b5, b6⟩ := tA i (by omega)
            obtain ⟨c1, c2, c3, c4⟩ := q1 i (by omega)
            rw [m_up_n z, m_up_n z, m_up_n z]
            refine ⟨c1.trans b1, c2.trans b2, c3.trans b3, c4.trans b4, ?_, ?_⟩
            · by_cases y : i = K
              · subst y
                rw [m_up_s, if_neg (by omega), smK, ← hN0, q8]
              · have hsame : (if m_up np K (cnt + 1) i = 0 then (-1 : Int32) else nI (1 + sm i (m_up np K (cnt + 1)))) = (if m_up np K cnt i = 0 then (-1 : Int32) else nI (1 + sm i (m_up np K cnt))) := by
                  rw [m_up_n y, m_up_n y]
                  by_cases x : np i = 0
                  · rw [if_pos x, if_pos x]
                  · rw [if_neg x, if_neg x]
                    have hiK : i < K := by
                      rcases Nat.lt_or_ge i K with v | v
                      · exact v
                      · exact absurd (hnr i v).2 x
                    rw [sm_congr (f := m_up np K (cnt + 1)) (g := m_up np K cnt) (fun j hj => by rw [m_up_n (by omega), m_up_n (by omega)])]
                rw [hsame, (q10 i (by omega) y).1]
                exact b5
            · by_cases y : i = K
              · subst y
                rw [m_up_s, q9]
              · rw [m_up_n y, (q10 i (by omega) y).2]
                rw [m_up_n y] at b6
                exact b6
        unfold f_Tree_append f_Ref_lay
        rw [if_pos (by rw [show (11700 : Int32) = nI 11700 from rfl, i_lt (by decide) (by omega)]; omega), x_gI (show N < 11700 by omega) (by decide), x_gI (show N < 11700 by omega) (by decide), x_gI (show N < 11700 by omega) (by decide), x_gI (show N < 11700 by omega) (by decide), x_gI (show N < 11700 by omega) (by decide), x_gI (show N < 11700 by omega) (by decide), bind_some, nI_clamp (show N < 2 ^ 31 by omega), nI_1 N, if_neg (show ¬ (1 : Int32) = 0 by decide), x_gI (show K < 11700 by omega) (by decide), x_gI (show K < 11700 by omega) (by decide), x_gI (show K < 11700 by omega) (by decide), x_gI (show K < 11700 by omega) (by decide)]
        rw [if_neg (show ¬ nI t = -1 by rw [i_m1 ht31]; exact id), x_gI (show K < 12000 by omega) (by decide), dK6]
        have hNK : K ≠ N := by omega
        have hNK' : N ≠ K := by omega
        have cls : ∀ (du' ds' df' dt' dp' dc' dv' : Nat → Int32), t_A (N + 1) (m_up ns N t) (m_up na N m) (m_up nb N e) (fun i => if i = K then some r else nr i) (m_up np K (cnt + 1)) du' ds' df' dt' dp' dc' → (∀ i, i < N → dv' i = dv i) →
            ∃ w1 w2 w3 w4 N2 ns2 na2 nb2 ap2 ru2 sr2 st2 en2 fp2 pc2 du2 ds2 df2 dt2 dp2 dc2 dv2, f_Tree_appendParts_L36 n (nI (grl fi r)) (nI (fi r)) (nI K) S_size S_types S_typeRanks R_used R_all W_length W_row (nI ln) st rests k (nI (p + 1)) (nI e) (nI (N + 1)) (upd ru N (-1)) (upd sr N (nI t)) (upd st_ N (nI m)) (upd en N (nI e)) (upd (upd fp N (-1)) K (nI (N + 1) - (upd (upd pc N 0) K ((upd pc N 0) K + 1)) K)) (upd (upd pc N 0) K ((upd pc N 0) K + 1)) = some (w1, w2, nI N2, ru2, sr2, st2, en2, fp2, pc2) ∧
            f_Ref_grow_L136 n (nI b) (nI K) D_types D_sortOf D_starts D_told D_row many k (nI (p + 1)) (nI e) (nI (N + 1)) du' ds' df' dt' dp' dc' dv' = some (w3, w4, nI N2, du2, ds2, df2, dt2, dp2, dc2, dv2) ∧
            N2 = N0 + t_pc ty fi al r (grl fi r) ∧ t_A N2 ns2 na2 nb2 (fun i => if i = K then some r else nr i) (m_up np K (t_pc ty fi al r (grl fi r))) ru2 sr2 st2 en2 fp2 pc2 ∧ t_A N2 ns2 na2 nb2 (fun i => if i = K then some r else nr i) (m_up np K (t_pc ty fi al r (grl fi r))) du2 ds2 df2 dt2 dp2 dc2 ∧
            t_ok ty rk rs fi al rw_ u ln N2 ns2 na2 nb2 ∧ sm N2 (t_g so ty rk rs fi al rw_ u (K + 1) ns2 na2 nb2) ≤ S0 + B (grl fi r) b ∧ ap2 0 = a ∧ ap2 (grl fi r) = b ∧ (∀ q, q < grl fi r → t_cond ty fi al rw_ ln N0 N2 ns2 na2 nb2 r ap2 q) ∧ (∀ i, i < N → ns2 i = ns i ∧ na2 i = na i ∧ nb2 i = nb i ∧ dv2 i = dv i) := by
          intro du' ds' df' dt' dp' dc' dv' tD' hdv'
          have e1 : (upd pc N 0) K + 1 = nI (cnt + 1) := by rw [pk_un hNK, aK6, nI_1]
          obtain ⟨w1, w2, w3, w4, N2, ns2, na2, nb2, ap2, ru2, sr2, st2, en2, fp2, pc2, du2, ds2, df2, dt2, dp2, dc2, dv2, f1, f2, f3, f4, f5, f6, f7, f8, f9, f10, f11⟩ := ih (p + 1) e (N + 1) (cnt + 1) (m_up ns N t) (m_up na N m) (m_up nb N e) (m_up ap (p + 1) e) (upd ru N (-1)) (upd sr N (nI t)) (upd st_ N (nI m)) (upd en N (nI e)) (upd (upd fp N (-1)) K (nI (N + 1) - (upd (upd pc N 0) K ((upd pc N 0) K + 1)) K)) (upd (upd pc N 0) K ((upd pc N 0) K + 1)) du' ds' df' dt' dp' dc' dv' (by omega) (by omega) he2 (by omega) he4 (by omega) (by omega) (arr ru sr st_ en fp pc tA _ _ _ _ _ _ (fun i hi => ⟨pk_un (by omega), pk_un (by omega), pk_un (by omega), pk_un (by omega)⟩) pk_us pk_us pk_us pk_us (by rw [pk_un hNK', pk_us]) (by rw [pk_un hNK', pk_us]) (by rw [pk_us, pk_us, e1, i_sub (by omega)]; exact congrArg nI (by omega)) (by rw [pk_us, e1]) (fun i hi hiK => ⟨by rw [pk_un hiK, pk_un (by omega)], by rw [pk_un hiK, pk_un (by omega)]⟩)) tD' tok2 (by omega) (by rw [m_up_n (by omega)]; exact hap0) m_up_s cond2
          refine ⟨w1, w2, w3, w4, N2, ns2, na2, nb2, ap2, ru2, sr2, st2, en2, fp2, pc2, du2, ds2, df2, dt2, dp2, dc2, dv2, f1, f2, f3, f4, f5, f6, f7, f8, f9, f10, fun i hi => ?_⟩
          obtain ⟨y1, y2, y3, y4⟩ := f11 i (by omega)
          rw [m_up_n (by omega)] at y1 y2 y3
          exact ⟨y1, y2, y3, y4.trans (hdv' i hi)⟩
        by_cases hc0 : cnt = 0
        · rw [if_pos (show nI cnt = 0 by rw [hc0]; rfl), x_gI (show K < 12000 by omega) (by decide), x_gI (show K < 12000 by omega) (by decide), x_gI (show K < 12000 by omega) (by decide), x_gI (show gra fi al r p < 1000 by omega) (by decide), x_gI (show N < 12000 by omega) (by decide), x_gI (show N < 12000 by omega) (by decide), x_gI (show N < 12000 by omega) (by decide), x_gI (show N < 12000 by omega) (by decide), x_gI (show N < 12000 by omega) (by decide), x_gI (show N < 12000 by omega) (by decide), x_gI (show N < 12000 by omega) (by decide), bind_some]
          exact cls (upd du N (-1)) (upd ds N (nI t)) (upd df N (nI m)) (upd dt N (nI e)) (upd (upd dp K (nI N)) N (-1)) (upd (upd dc K (nI cnt + 1)) N 0) (upd dv N (-1)) (arr du ds df dt dp dc tD (upd du N (-1)) (upd ds N (nI t)) (upd df N (nI m)) (upd dt N (nI e)) (upd (upd dp K (nI N)) N (-1)) (upd (upd dc K (nI cnt + 1)) N 0) (fun i hi => ⟨pk_un (by omega), pk_un (by omega), pk_un (by omega), pk_un (by omega)⟩) pk_us pk_us pk_us pk_us pk_us pk_us (by rw [pk_un hNK, pk_us]; exact congrArg nI (by omega)) (by rw [pk_un hNK, pk_us, nI_1]) (fun i hi hiK => ⟨by rw [pk_un (by omega), pk_un hiK], by rw [pk_un (by omega), pk_un hiK]⟩)) (fun i hi => pk_un (by omega))
        · rw [if_neg (show ¬ nI cnt = 0 by rw [i_eq0 (by omega)]; exact hc0), x_gI (show K < 12000 by omega) (by decide), x_gI (show K < 12000 by omega) (by decide), x_gI (show K < 12000 by omega) (by decide), x_gI (show K < 12000 by omega) (by decide), x_gI (show gra fi al r p < 1000 by omega) (by decide), x_gI (show N < 12000 by omega) (by decide), x_gI (show N < 12000 by omega) (by decide), x_gI (show N < 12000 by omega) (by decide), x_gI (show N < 12000 by omega) (by decide), x_gI (show N < 12000 by omega) (by decide), x_gI (show N < 12000 by omega) (by decide), x_gI (show N < 12000 by omega) (by decide), bind_some]
          exact cls (upd du N (-1)) (upd ds N (nI t)) (upd df N (nI m)) (upd dt N (nI e)) (upd (upd dp K (dp K)) N (-1)) (upd (upd dc K (nI cnt + 1)) N 0) (upd dv N (-1)) (arr du ds df dt dp dc tD (upd du N (-1)) (upd ds N (nI t)) (upd df N (nI m)) (upd dt N (nI e)) (upd (upd dp K (dp K)) N (-1)) (upd (upd dc K (nI cnt + 1)) N 0) (fun i hi => ⟨pk_un (by omega), pk_un (by omega), pk_un (by omega), pk_un (by omega)⟩) pk_us pk_us pk_us pk_us pk_us pk_us (by rw [pk_un hNK, pk_us, dK5, if_neg hc0]) (by rw [pk_un hNK, pk_us, nI_1]) (fun i hi hiK => ⟨by rw [pk_un (by omega), pk_un hiK], by rw [pk_un (by omega), pk_un hiK]⟩)) (fun i hi => pk_un (by omega))
end PL
