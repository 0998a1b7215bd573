/-! The reference: wraps until nothing more comes; one stretch -/
theorem sm_lt : ∀ {n : Nat} {f g : Nat → Nat} {k : Nat}, (∀ j, j < n → f j ≤ g j) → k < n → f k < g k → sm n f < sm n g
  | 0, _, _, _, _, h, _ => absurd h (Nat.not_lt_zero _)
  | n + 1, f, g, k, h, hk, hf => by
    show sm n f + f n < sm n g + g n
    by_cases q : k = n
    · subst q
      have := sm_le (n := k) (f := f) (g := g) (fun j hj => h j (by omega))
      omega
    · have := sm_lt (n := n) (f := f) (g := g) (k := k) (fun j hj => h j (by omega)) (by omega) hf
      have := h n (by omega)
      omega
theorem sm_2 {f : Nat → Nat} : ∀ {n : Nat}, (∀ j, j < n → f j ≤ 2) → sm n f ≤ 2 * n
  | 0, _ => Nat.le_refl 0
  | n + 1, h => by
    show sm n f + f n ≤ 2 * (n + 1)
    have := sm_2 (n := n) (fun j hj => h j (by omega))
    have := h n (by omega)
    omega
section UN
variable {n sz so : Nat} {ty rk : Nat → Option Nat} {cl us : Nat} {op : Bool} {rs fi al : Nat → Nat} {D_symbols D_sorts : Int32} {D_types D_sortOf : Nat → Int32} {D_rules D_isOpen D_all : Int32} {D_makes D_starts D_told : Nat → Int32} {ln : Nat} {rw_ : Nat → Nat} {D_length : Int32} {D_row : Nat → Int32} {u : Nat} {a b : Nat}
theorem q_uniteL3 (hso : so ≤ 100) (ha : a < 60) (hb : b < 60) {base : Nat → Int32} {f : Nat → Nat} (hf : ∀ A, A < so → base A = nI (f A) ∧ f A ≤ 2) : ∀ (k v : Nat) (many : Nat → Int32), v ≤ so → so - v < k →
    ∃ w many', f_Ref_unite_L3 n (nI a) (nI b) (nI so) base k (nI v) many = some (w, many') ∧ (∀ A, v ≤ A → A < so → many' (d_ix A a b) = nI (f A)) ∧ (∀ p, (∀ A, v ≤ A → A < so → p ≠ d_ix A a b) → many' p = many p) := by
  intro k
  induction k with
  | zero => intro v many _ h; exact absurd h (Nat.not_lt_zero _)
  | succ k ih =>
    intro v many hv hk
    rw [f_Ref_unite_L3]
    by_cases h : so ≤ v
    · rw [if_pos (by rw [i_le (by omega) (by omega)]; exact h)]
      exact ⟨_, _, rfl, fun A h1 h2 => by omega, fun _ _ => rfl⟩
    · have hlt := d_ix_lt (show v < 100 by omega) ha hb
      obtain ⟨f1, f2⟩ := hf v (by omega)
      rw [if_neg (by rw [i_le (by omega) (by omega)]; exact h), x_gI (by omega) (by decide), d_ixI, x_gI hlt (by decide), nI_clamp (by omega), nI_clamp (by omega), f1, q_nar8 f2, nI_1]
      obtain ⟨w, many', g1, g2, g3⟩ := ih (v + 1) (upd many (d_ix v a b) (nI (f v))) (by omega) (by omega)
      refine ⟨w, many', g1, fun A h1 h2 => ?_, fun p hp => ?_⟩
      · by_cases z : A = v
        · subst z
          rw [g3 _ (fun B b1 b2 e => by have := (d_ix_inj ha hb ha hb e).1; omega), pk_us]
        · exact g2 A (by omega) h2
      · rw [g3 p (fun B b1 b2 => hp B (by omega) b2), pk_un (hp v (Nat.le_refl _) (by omega))]
theorem q_uniteL58 (hso : so ≤ 100) {base : Nat → Int32} : ∀ (k v : Nat) (next : Nat → Int32), v ≤ so → so - v < k →
    ∃ w next', f_Ref_unite_L58 n (nI so) base k (nI v) next = some (w, next') ∧ (∀ A, v ≤ A → A < so → next' A = base A) ∧ (∀ A, A < v → next' A = next A) := by
  intro k
  induction k with
  | zero => intro v next _ h; exact absurd h (Nat.not_lt_zero _)
  | succ k ih =>
    intro v next hv hk
    rw [f_Ref_unite_L58]
    by_cases h : so ≤ v
    · rw [if_pos (by rw [i_le (by omega) (by omega)]; exact h)]
      exact ⟨_, _, rfl, fun A h1 h2 => by omega, fun _ _ => rfl⟩
    · rw [if_neg (by rw [i_le (by omega) (by omega)]; exact h), x_gI (by omega) (by decide), x_gI (by omega) (by decide), nI_clamp (by omega), nI_1]
      obtain ⟨w, next', g1, g2, g3⟩ := ih (v + 1) (upd next v (base v)) (by omega) (by omega)
      refine ⟨w, next', g1, fun A h1 h2 => ?_, fun A hA => ?_⟩
      · by_cases z : A = v
        · subst z
          rw [g3 A (by omega), pk_us]
        · exact g2 A (by omega) h2
      · rw [g3 A (by omega), pk_un (by omega)]
/-- what one wrap gives -/
def d_w (ty rk : Nat → Option Nat) (rs fi al : Nat → Nat) (v : Nat → Nat) (r A : Nat) : Nat := match gvt ty rk (gra fi al r 0) with
  | none => 0
  | some B => if grs rk rs r = A ∧ grl fi r = 1 then v B else 0
theorem d_w_sum (hm : m_S sz so ty rk) (v : Nat → Nat) (A : Nat) : sm u (fun r => d_w ty rk rs fi al v r A) = sm so (fun B => g_um (gvt ty rk) (grs rk rs) (grl fi) (gra fi al) u A B * v B) := by
  have e : sm so (fun B => g_um (gvt ty rk) (grs rk rs) (grl fi) (gra fi al) u A B * v B) = sm u (fun r => sm so (fun B => (if grs rk rs r = A ∧ grl fi r = 1 ∧ gvt ty rk (gra fi al r 0) = some B then 1 else 0) * v B)) := by
    rw [sm_swap]
    refine sm_congr (fun B _ => ?_)
    unfold g_um
    rw [sm_mulr]
  rw [e]
  refine sm_congr (fun r _ => ?_)
  unfold d_w
  cases hv : gvt ty rk (gra fi al r 0) with
  | none =>
    rw [sm_0 (fun B _ => by rw [if_neg (fun q => by simp at q), Nat.zero_mul])]
  | some B =>
    rw [sm_one (k := B) (gvt_lt hm hv) (fun D _ hD => by rw [if_neg (fun q => hD (Option.some.inj q.2.2).symm), Nat.zero_mul])]
    by_cases z : grs rk rs r = A ∧ grl fi r = 1
    · rw [if_pos ⟨z.1, z.2, rfl⟩, Nat.one_mul]; exact if_pos z
    · rw [if_neg (fun y => z ⟨y.1, y.2.1⟩), Nat.zero_mul]; exact if_neg z
theorem q_uniteL90 (hm : m_S sz so ty rk) (hd : d_S sz so ty rk D_symbols D_sorts D_types D_sortOf) (hR : m_R sz ty rk cl us op rs fi al) (hD : d_R cl us op rs fi al D_rules D_isOpen D_all D_makes D_starts D_told) (hu : u ≤ cl) (ha : a < 60) (hb : b < 60) {many : Nat → Int32} {v bs : Nat → Nat} (hv : ∀ A, A < so → many (d_ix A a b) = nI (v A) ∧ v A ≤ 2) :
    ∀ (k r : Nat) (next : Nat → Int32), r ≤ u → u - r < k → (∀ A, A < so → next A = nI (s2 (bs A + sm r (fun z => d_w ty rk rs fi al v z A)))) →
    ∃ w next', f_Ref_unite_L90 n (nI a) (nI b) (nI u) D_types D_sortOf D_makes D_starts D_told many k (nI r) next = some (w, next') ∧ (∀ A, A < so → next' A = nI (s2 (bs A + sm u (fun z => d_w ty rk rs fi al v z A)))) := by
  have hcl := hR.1
  have hus := hR.2.1
  have hsz := hm.1
  have hso := hm.2.1
  intro k
  induction k with
  | zero => intro r next _ h; exact absurd h (Nat.not_lt_zero _)
  | succ k ih =>
    intro r next hru hk hne
    rw [f_Ref_unite_L90]
    by_cases h : u ≤ r
    · have e : r = u := by omega
      subst e
      rw [if_pos (by rw [i_le (by omega) (by omega)]; exact h)]
      exact ⟨_, _, rfl, hne⟩
    · have hr : r < cl := by omega
      have h1 := m_fi_us hR hr
      have h299 := (hR.2.2.2.1 r hr).2
      have hgl : grl fi r = fi (r + 1) - fi r := rfl
      have hst : D_starts r = nI (fi r) := hD.2.2.2.2.1 r (by omega)
      have hto : D_told (fi r) = nI (al (fi r)) := hD.2.2.2.2.2 (fi r) (by omega)
      have hal : al (fi r) < sz := hR.2.2.2.2.2.2.2.2.1 (fi r) (by omega)
      have hstep : ∀ A, sm (r + 1) (fun z => d_w ty rk rs fi al v z A) = sm r (fun z => d_w ty rk rs fi al v z A) + d_w ty rk rs fi al v r A := fun A => rfl
      have skip : (∀ A, d_w ty rk rs fi al v r A = 0) → ∃ w next', f_Ref_unite_L90 n (nI a) (nI b) (nI u) D_types D_sortOf D_makes D_starts D_told many k (nI (r + 1)) next = some (w, next') ∧ (∀ A, A < so → next' A = nI (s2 (bs A + sm u (fun z => d_w ty rk rs fi al v z A)))) := by
        intro h0
        refine ih (r + 1) next (by omega) (by omega) (fun A hA => ?_)
        rw [hne A hA, hstep, h0, Nat.add_zero]
      rw [if_neg (by rw [i_le (by omega) (by omega)]; exact h), q_lengthOf hR hD hr, bind_some, nI_1]
      by_cases e1 : grl fi r = 1
      · rw [if_pos (by rw [e1]; rfl)]
        simp only [nI_clamp (show r < 2 ^ 31 by omega), hst, nI_clamp (show fi r < 2 ^ 31 by omega), hto, nI_clamp (show al (fi r) < 2 ^ 31 by omega)]
        rw [x_gI (by omega) (by decide), x_gI (by omega) (by decide), x_gI (by omega) (by decide), hd.2.2.1 _ hal]
        cases hv2 : gvt ty rk (al (fi r)) with
        | none =>
          rw [if_pos ((hm.ty_m1 hal).mpr ((gvt_none hm hal).mp hv2))]
          refine skip (fun A => ?_)
          unfold d_w
          have : gvt ty rk (gra fi al r 0) = none := hv2
          rw [this]
        | some B =>
          have hB := gvt_lt hm hv2
          have hne2 : ¬ ty (al (fi r)) = none := fun y => by
            rw [(gvt_none hm hal).mpr y] at hv2
            cases hv2
          obtain ⟨s1, s2', s3, s4⟩ := q_sortOfMakes hm hd hR hD hr
          obtain ⟨b1, b2⟩ := hv B hB
          rw [if_neg (fun y => hne2 ((hm.ty_m1 hal).mp y)), x_gI (by omega) (by decide), s1, x_gI (by omega) (by decide), nI_clamp (by omega), s3, x_gI (by omega) (by decide), x_gI (by omega) (by decide), x_gI (by omega) (by decide), q_treesOf hm hd hal hv2 ha hb, bind_some, nI_clamp (by omega), hne _ s4, b1, i_add, q_capped (by have := s2_le (bs (grs rk rs r) + sm r (fun z => d_w ty rk rs fi al v z (grs rk rs r))); omega), bind_some, x_gI (by omega) (by decide)]
          refine ih (r + 1) _ (by omega) (by omega) (fun A hA => ?_)
          have hdw : d_w ty rk rs fi al v r A = if grs rk rs r = A ∧ grl fi r = 1 then v B else 0 := by
            unfold d_w
            have : gvt ty rk (gra fi al r 0) = some B := hv2
            rw [this]
          by_cases z : A = grs rk rs r
          · rw [z, pk_us, s2_addl, hstep, ← z, hdw, if_pos ⟨z.symm, e1⟩, Nat.add_assoc]
          · rw [pk_un z, hne A hA, hstep, hdw, if_neg (fun y => z y.1.symm), Nat.add_zero]
      · rw [if_neg (by rw [show (1 : Int32) = nI 1 from rfl, i_eq (by decide) (by omega)]; exact e1)]
        refine skip (fun A => ?_)
        unfold d_w
        cases gvt ty rk (gra fi al r 0) with
        | none => rfl
        | some B => exact if_neg (fun y => e1 y.2)
theorem q_uniteL186 (hso : so ≤ 100) (ha : a < 60) (hb : b < 60) {next : Nat → Int32} {x y : Nat → Nat} (hy : ∀ A, A < so → next A = nI (y A) ∧ y A ≤ 2) (hx : ∀ A, A < so → x A ≤ 2) :
    ∀ (k v : Nat) (fl : Int32) (many : Nat → Int32), v ≤ so → so - v < k → (fl = 0 ∨ fl = 1) → (∀ A, v ≤ A → A < so → many (d_ix A a b) = nI (x A)) →
    ∃ w fl' many', f_Ref_unite_L186 n (nI a) (nI b) (nI so) next k (nI v) fl many = some (w, fl', many') ∧ ((fl' = 0 ∧ fl = 0 ∧ ∀ A, v ≤ A → A < so → x A = y A) ∨ (fl' = 1 ∧ (fl = 1 ∨ ∃ A, v ≤ A ∧ A < so ∧ x A ≠ y A))) ∧ (∀ A, v ≤ A → A < so → many' (d_ix A a b) = nI (y A)) ∧ (∀ p, (∀ A, v ≤ A → A < so → p ≠ d_ix A a b) → many' p = many p) := by
  intro k
  induction k with
  | zero => intro v fl many _ h; exact absurd h (Nat.not_lt_zero _)
  | succ k ih =>
    intro v fl many hv hk hfl hma
    rw [f_Ref_unite_L186]
    by_cases h : so ≤ v
    · rw [if_pos (by rw [i_le (by omega) (by omega)]; exact h)]
      refine ⟨_, _, _, rfl, ?_, fun A h1 h2 => by omega, fun _ _ => rfl⟩
      rcases hfl with z | z
      · exact Or.inl ⟨z, z, fun A h1 h2 => by omega⟩
      · exact Or.inr ⟨z, Or.inl z⟩
    · have hlt := d_ix_lt (show v < 100 by omega) ha hb
      obtain ⟨y1, y2⟩ := hy v (by omega)
      have hma0 := hma v (Nat.le_refl _) (by omega)
      have hx0 := hx v (by omega)
      have next1 : ∀ fl1 : Int32, (fl1 = 0 ∨ fl1 = 1) → ((fl1 = 0 ∧ fl = 0 ∧ x v = y v) ∨ (fl1 = 1 ∧ (fl = 1 ∨ x v ≠ y v))) → ∃ w fl' many', f_Ref_unite_L186 n (nI a) (nI b) (nI so) next k (nI (v + 1)) fl1 (upd many (d_ix v a b) (nI (y v))) = some (w, fl', many') ∧ ((fl' = 0 ∧ fl = 0 ∧ ∀ A, v ≤ A → A < so → x A = y A) ∨ (fl' = 1 ∧ (fl = 1 ∨ ∃ A, v ≤ A ∧ A < so ∧ x A ≠ y A))) ∧ (∀ A, v ≤ A → A < so → many' (d_ix A a b) = nI (y A)) ∧ (∀ p, (∀ A, v ≤ A → A < so → p ≠ d_ix A a b) → many' p = many p) := by
        intro fl1 hfl1 hcase
        obtain ⟨w, fl', many', g1, g2, g3, g4⟩ := ih (v + 1) fl1 (upd many (d_ix v a b) (nI (y v))) (by omega) (by omega) hfl1 (fun A h1 h2 => by
          rw [pk_un (fun e => by have := (d_ix_inj ha hb ha hb e).1; omega)]
          exact hma A (by omega) h2)
        refine ⟨w, fl', many', g1, ?_, fun A h1 h2 => ?_, fun p hp => ?_⟩
        · rcases g2 with ⟨z1, z2, z3⟩ | ⟨z1, z2⟩
          · rcases hcase with ⟨c1, c2, c3⟩ | ⟨c1, c2⟩
            · refine Or.inl ⟨z1, c2, fun A h1 h2 => ?_⟩
              by_cases e : A = v
              · subst e; exact c3
              · exact z3 A (by omega) h2
            · rw [c1] at z2; exact absurd z2 (by decide)
          · refine Or.inr ⟨z1, ?_⟩
            rcases z2 with z2 | ⟨A, q1, q2, q3⟩
            · rcases hcase with ⟨c1, c2, c3⟩ | ⟨c1, c2⟩
              · rw [c1] at z2; exact absurd z2 (by decide)
              · rcases c2 with c2 | c2
                · exact Or.inl c2
                · exact Or.inr ⟨v, Nat.le_refl _, by omega, c2⟩
            · exact Or.inr ⟨A, by omega, q2, q3⟩
        · by_cases z : A = v
          · subst z
            rw [g4 _ (fun B b1 b2 e => by have := (d_ix_inj ha hb ha hb e).1; omega), pk_us]
          · exact g3 A (by omega) h2
        · rw [g4 p (fun B b1 b2 => hp B (by omega) b2), pk_un (hp v (Nat.le_refl _) (by omega))]
      have hcv : (nI v).toNatClampNeg = v := nI_clamp (by omega)
      have hcd : (nI (d_ix v a b)).toNatClampNeg = d_ix v a b := nI_clamp (by omega)
      have g1 : ∀ {α : Type} (z : Option α), x_g (nI v) 12000 z = z := fun z => x_gI (by omega) (by decide)
      have g2 : ∀ {α : Type} (z : Option α), x_g (nI (d_ix v a b)) 360000 z = z := fun z => x_gI hlt (by decide)
      rw [if_neg (by rw [i_le (by omega) (by omega)]; exact h)]
      simp only [d_ixI, g1, g2, hcv, hcd, y1, hma0, q_nar8 y2, nI_1]
      rcases hfl with z | z
      · rw [if_pos z]
        by_cases e : x v = y v
        · rw [if_pos (by rw [e])]
          exact next1 0 (Or.inl rfl) (Or.inl ⟨rfl, z, e⟩)
        · rw [if_neg (by rw [i_eq (by omega) (by omega)]; exact e)]
          exact next1 1 (Or.inr rfl) (Or.inr ⟨rfl, Or.inr e⟩)
      · rw [if_neg (by rw [z]; decide)]
        exact next1 1 (Or.inr rfl) (Or.inr ⟨rfl, Or.inl z⟩)
/-- one round of wraps -/
def d_P (ty rk : Nat → Option Nat) (rs fi al : Nat → Nat) (u so : Nat) (bs v : Nat → Nat) (A : Nat) : Nat := s2 (bs A + sm so (fun B => g_um (gvt ty rk) (grs rk rs) (grl fi) (gra fi al) u A B * v B))
theorem d_P_mono {bs v v' : Nat → Nat} (h : ∀ A, A < so → v A ≤ v' A) (A : Nat) : d_P ty rk rs fi al u so bs v A ≤ d_P ty rk rs fi al u so bs v' A :=
  s2_mono (Nat.add_le_add_left (sm_le (fun B hB => Nat.mul_le_mul_left _ (h B hB))) _)
theorem d_P_congr {bs v v' : Nat → Nat} (h : ∀ A, A < so → v A = v' A) (A : Nat) : d_P ty rk rs fi al u so bs v A = d_P ty rk rs fi al u so bs v' A :=
  Nat.le_antisymm (d_P_mono (fun A hA => Nat.le_of_eq (h A hA)) A) (d_P_mono (fun A hA => Nat.le_of_eq (h A hA).symm) A)
theorem q_uniteL47 (hn : 40000 ≤ n) (hm : m_S sz so ty rk) (hd : d_S sz so ty rk D_symbols D_sorts D_types D_sortOf) (hR : m_R sz ty rk cl us op rs fi al) (hD : d_R cl us op rs fi al D_rules D_isOpen D_all D_makes D_starts D_told) (hu : u ≤ cl) (ha : a < 60) (hb : b < 60) {base : Nat → Int32} {bs : Nat → Nat} (hbs : ∀ A, A < so → base A = nI (s2 (bs A))) :
    ∀ (k : Nat) (v : Nat → Nat) (many next : Nat → Int32), 2 * so - sm so v + 2 ≤ k → (∀ A, A < so → many (d_ix A a b) = nI (v A) ∧ v A ≤ 2) → (∀ A, A < so → v A ≤ d_P ty rk rs fi al u so bs v A) → (∀ h : Nat → Nat, (∀ A, A < so → d_P ty rk rs fi al u so bs h A ≤ h A) → ∀ A, A < so → v A ≤ h A) →
    ∃ w many' next' f, f_Ref_unite_L47 n (nI a) (nI b) (nI u) (nI so) D_types D_sortOf D_makes D_starts D_told base k 1 many next = some (w, many', next') ∧ (∀ A, A < so → many' (d_ix A a b) = nI (f A)) ∧ (∀ p, (∀ A, A < so → p ≠ d_ix A a b) → many' p = many p) ∧ (∀ A, A < so → f A = d_P ty rk rs fi al u so bs f A) ∧ (∀ h : Nat → Nat, (∀ A, A < so → d_P ty rk rs fi al u so bs h A ≤ h A) → ∀ A, A < so → f A ≤ h A) := by
  have hso := hm.2.1
  have hcl := hR.1
  intro k
  induction k with
  | zero => intro v many next h; omega
  | succ k ih =>
    intro v many next hk hma hup hle
    obtain ⟨w1, next1, a1, a2, -⟩ := q_uniteL58 (n := n) (base := base) hso n 0 next (Nat.zero_le _) (by omega)
    obtain ⟨w2, next2, b1, b2⟩ := q_uniteL90 (n := n) (bs := bs) hm hd hR hD hu ha hb hma n 0 next1 (Nat.zero_le _) (by omega) (fun A hA => by
      rw [a2 A (Nat.zero_le _) hA, hbs A hA]
      rfl)
    have b3 : ∀ A, A < so → next2 A = nI (d_P ty rk rs fi al u so bs v A) ∧ d_P ty rk rs fi al u so bs v A ≤ 2 := fun A hA => by
      refine ⟨?_, s2_le _⟩
      rw [b2 A hA, d_w_sum hm]
      rfl
    obtain ⟨w3, fl, many1, c1, c2, c3, c4⟩ := q_uniteL186 (n := n) hso ha hb b3 (fun A hA => (hma A hA).2) n 0 0 many (Nat.zero_le _) (by omega) (Or.inl rfl) (fun A _ hA => (hma A hA).1)
    have a1' : f_Ref_unite_L58 n (nI so) base n 0 next = some (w1, next1) := a1
    have b1' : f_Ref_unite_L90 n (nI a) (nI b) (nI u) D_types D_sortOf D_makes D_starts D_told many n 0 next1 = some (w2, next2) := b1
    have c1' : f_Ref_unite_L186 n (nI a) (nI b) (nI so) next2 n 0 0 many = some (w3, fl, many1) := c1
    rw [f_Ref_unite_L47, if_neg (by decide), a1', bind_some, b1', bind_some, c1', bind_some]
    show ∃ w many' next' f, f_Ref_unite_L47 n (nI a) (nI b) (nI u) (nI so) D_types D_sortOf D_makes D_starts D_told base k fl many1 next2 = some (w, many', next') ∧ _
    rcases c2 with ⟨z1, -, z3⟩ | ⟨z1, z2⟩
    · obtain ⟨k', rfl⟩ : ∃ k', k = k' + 1 := ⟨k - 1, by omega⟩
      rw [f_Ref_unite_L47, if_pos z1]
      refine ⟨_, _, _, v, rfl, fun A hA => ?_, fun p hp => c4 p (fun A _ hA => hp A hA), fun A hA => z3 A (Nat.zero_le _) hA, hle⟩
      rw [c3 A (Nat.zero_le _) hA, ← z3 A (Nat.zero_le _) hA]
    · subst z1
      have hex : ∃ A, A < so ∧ v A ≠ d_P ty rk rs fi al u so bs v A := by
        rcases z2 with z2 | ⟨A, -, q2, q3⟩
        · exact absurd z2 (by decide)
        · exact ⟨A, q2, q3⟩
      obtain ⟨A0, q2, q3⟩ := hex
      have hs := sm_lt (f := v) (g := d_P ty rk rs fi al u so bs v) hup q2 (by have := hup A0 q2; omega)
      have h2 := sm_2 (f := d_P ty rk rs fi al u so bs v) (n := so) (fun j _ => s2_le _)
      obtain ⟨w, many', next', f, g1, g2, g3, g4, g5⟩ := ih (d_P ty rk rs fi al u so bs v) many1 next2 (by omega) (fun A hA => ⟨c3 A (Nat.zero_le _) hA, s2_le _⟩) (fun A hA => d_P_mono hup A) (fun h hh A hA => Nat.le_trans (d_P_mono (fun B hB => hle h hh B hB) A) (hh A hA))
      refine ⟨w, many', next', f, g1, g2, fun p hp => ?_, g4, g5⟩
      rw [g3 p hp, c4 p (fun A _ hA => hp A hA)]
theorem g_big (hm : m_S sz so ty rk) (hR : m_R sz ty rk cl us op rs fi al) (hu : u ≤ cl) {c : Nat → Nat → Nat → Nat} {A i e : Nat} (hA : so ≤ A) (f : Nat → Nat) : s2 (g_b rw_ (gvt ty rk) (grs rk rs) (grl fi) (gra fi al) u c A i e + sm so (fun B => g_um (gvt ty rk) (grs rk rs) (grl fi) (gra fi al) u A B * f B)) = 0 := by
  have e1 : g_b rw_ (gvt ty rk) (grs rk rs) (grl fi) (gra fi al) u c A i e = 0 := by
    unfold g_b
    rw [if_neg (fun z => by have := gvt_lt hm z.2; omega), Nat.zero_add]
    exact sm_0 (fun r hr => if_neg (fun z => by have := grs_lt hm hR (show r < cl by omega); omega))
  have e2 : ∀ B, g_um (gvt ty rk) (grs rk rs) (grl fi) (gra fi al) u A B = 0 := fun B => sm_0 (fun r hr => if_neg (fun z => by have := grs_lt hm hR (show r < cl by omega); omega))
  rw [e1, sm_0 (fun B _ => by rw [e2, Nat.zero_mul])]
  rfl
theorem q_unite (hn : 40000 ≤ n) (hm : m_S sz so ty rk) (hd : d_S sz so ty rk D_symbols D_sorts D_types D_sortOf) (hR : m_R sz ty rk cl us op rs fi al) (hD : d_R cl us op rs fi al D_rules D_isOpen D_all D_makes D_starts D_told) (hu : u ≤ cl) (hab : a < b) (hb : b < 60) {base : Nat → Int32}
    (hbs : ∀ A, A < so → base A = nI (s2 (g_b rw_ (gvt ty rk) (grs rk rs) (grl fi) (gra fi al) u (m_C ty rk rs fi al rw_ u) A a b))) (many next : Nat → Int32) :
    ∃ many' next', f_Ref_unite n D_sorts D_types D_sortOf D_makes D_starts D_told many base next (nI a) (nI b) (nI u) = some (many', next') ∧ (∀ A, A < so → many' (d_ix A a b) = nI (m_C ty rk rs fi al rw_ u A a b)) ∧ (∀ p, (∀ A, A < so → p ≠ d_ix A a b) → many' p = many p) := by
  have hso := hm.2.1
  obtain ⟨w1, many1, a1, a2, a3⟩ := q_uniteL3 (n := n) hso (show a < 60 by omega) hb (fun A hA => ⟨hbs A hA, s2_le _⟩) n 0 many (Nat.zero_le _) (by omega)
  obtain ⟨w2, many2, next2, f, b1, b2, b3, b4, b5⟩ := q_uniteL47 (n := n) hn hm hd hR hD hu (show a < 60 by omega) hb hbs n (fun A => s2 (g_b rw_ (gvt ty rk) (grs rk rs) (grl fi) (gra fi al) u (m_C ty rk rs fi al rw_ u) A a b)) many1 next (by omega) (fun A hA => ⟨a2 A (Nat.zero_le _) hA, s2_le _⟩) (fun A hA => s2_mono (Nat.le_add_right _ _)) (fun h hh A hA => Nat.le_trans (s2_mono (Nat.le_add_right _ _)) (hh A hA))
  refine ⟨many2, next2, ?_, fun A hA => ?_, fun p hp => ?_⟩
  · unfold f_Ref_unite
    have a1' : f_Ref_unite_L3 n (nI a) (nI b) D_sorts base n 0 many = some (w1, many1) := by rw [hd.2.1]; exact a1
    have b1' : f_Ref_unite_L47 n (nI a) (nI b) (nI u) D_sorts D_types D_sortOf D_makes D_starts D_told base n 1 many1 next = some (w2, many2, next2) := by rw [hd.2.1]; exact b1
    rw [a1', bind_some, b1', bind_some]
  · rw [b2 A hA]
    have h1 : ∀ r, r < u → 1 ≤ grl fi r := fun r hr => by
      have := m_fi_us hR (show r < cl by omega)
      unfold grl
      omega
    have h2 : ∀ r, r < u → ∀ B, gvt ty rk (gra fi al r 0) = some B → B < so := fun r _ B h => gvt_lt hm h
    have key := g_C_by (x := rw_) (vt := gvt ty rk) (rs := grs rk rs) (rl := grl fi) (ra := gra fi al) (lim := u) (so := so) hab h1 h2 (fun A => if A < so then f A else 0)
      (fun A => by
        show _ ≤ (if A < so then f A else 0)
        rcases Nat.lt_or_ge A so with z | z
        · rw [if_pos z, b4 A z]
          refine Nat.le_of_eq ?_
          exact d_P_congr (bs := fun A => g_b rw_ (gvt ty rk) (grs rk rs) (grl fi) (gra fi al) u (m_C ty rk rs fi al rw_ u) A a b) (fun B hB => if_pos hB) A
        · rw [g_big hm hR hu z]; exact Nat.zero_le _)
      (fun h hh A => by
        show (if A < so then f A else 0) ≤ h A
        rcases Nat.lt_or_ge A so with z | z
        · rw [if_pos z]
          exact b5 h (fun B _ => hh B) A z
        · rw [if_neg (by omega)]; exact Nat.zero_le _) A
    have key : (if A < so then f A else 0) = _ := key
    rw [if_pos hA] at key
    exact congrArg nI key
  · rw [b3 p hp, a3 p (fun A _ hA => hp A hA)]
end UN
