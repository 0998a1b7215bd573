/-! What is left of a rule may be a stretch; the level at which a sort gets its first tree. -/
def g_sf (x : Nat → Nat) (vt : Nat → Option Nat) (ra : Nat → Nat → Nat) (c : Nat → Nat → Nat → Nat) (r : Nat) : Nat → Nat → Nat → Nat → Prop
  | 0, _, m, b => m = b
  | d + 1, p, m, b => ∃ e, m < e ∧ e ≤ b ∧ 0 < g_sp x vt c (ra r p) m e ∧ g_sf x vt ra c r d (p + 1) e b
section SF
variable {x : Nat → Nat} {vt : Nat → Option Nat} {rs rl : Nat → Nat} {ra : Nat → Nat → Nat} {lim : Nat} {c : Nat → Nat → Nat → Nat} {r : Nat}
theorem g_sf_len : ∀ {d p m b : Nat}, g_sf x vt ra c r d p m b → m + d ≤ b
  | 0, _, m, b, h => by
    have : m = b := h
    omega
  | d + 1, p, m, b, ⟨e, h1, h2, _, h4⟩ => by
    have := g_sf_len h4
    omega
theorem g_wy_step {p a m e : Nat} (h : m < e) : g_wy x vt ra c r p a m * g_sp x vt c (ra r p) m e ≤ g_wy x vt ra c r (p + 1) a e :=
  sm_at (f := fun k => g_wy x vt ra c r p a k * g_sp x vt c (ra r p) k e) h
theorem g_sf_wy {a y : Nat} : ∀ {d p m b : Nat}, g_sf x vt ra c r d p m b → y ≤ g_wy x vt ra c r p a m → y ≤ g_wy x vt ra c r (p + d) a b
  | 0, p, m, b, h, hy => by
    have e : m = b := h
    subst e
    exact hy
  | d + 1, p, m, b, ⟨e, h1, h2, h3, h4⟩, hy => by
    have k1 := g_wy_step (x := x) (vt := vt) (ra := ra) (c := c) (r := r) (p := p) (a := a) h1
    have k2 : g_wy x vt ra c r p a m * 1 ≤ g_wy x vt ra c r p a m * g_sp x vt c (ra r p) m e := Nat.mul_le_mul_left _ h3
    have k3 := g_sf_wy (a := a) (y := y) h4 (by omega)
    rw [show p + (d + 1) = p + 1 + d by omega]
    exact k3
theorem g_sf_snoc {b : Nat} : ∀ {d p m e : Nat}, g_sf x vt ra c r d p m e → e < b → 0 < g_sp x vt c (ra r (p + d)) e b → g_sf x vt ra c r (d + 1) p m b
  | 0, p, m, e, h, h1, h2 => by
    have q : m = e := h
    subst q
    exact ⟨b, h1, Nat.le_refl _, h2, rfl⟩
  | d + 1, p, m, e, ⟨e1, k1, k2, k3, k4⟩, h1, h2 => by
    rw [show p + (d + 1) = p + 1 + d by omega] at h2
    exact ⟨e1, k1, by omega, k3, g_sf_snoc k4 h1 h2⟩
theorem g_wy_sf {a : Nat} : ∀ {d p b : Nat}, 0 < g_wy x vt ra c r (p + d) a b → ∃ m, 0 < g_wy x vt ra c r p a m ∧ g_sf x vt ra c r d p m b
  | 0, p, b, h => ⟨b, h, rfl⟩
  | d + 1, p, b, h => by
    have h' : 0 < sm b (fun k => g_wy x vt ra c r (p + d) a k * g_sp x vt c (ra r (p + d)) k b) := h
    obtain ⟨k, hk, hp⟩ := sm_pos h'
    have hp' : 0 < g_wy x vt ra c r (p + d) a k * g_sp x vt c (ra r (p + d)) k b := hp
    obtain ⟨m, m1, m2⟩ := g_wy_sf (d := d) (p := p) (Nat.pos_of_mul_pos_right hp')
    exact ⟨m, m1, g_sf_snoc m2 hk (Nat.pos_of_mul_pos_left hp')⟩
theorem g_wy_sf0 {L a b : Nat} (h : 0 < g_wy x vt ra c r L a b) : g_sf x vt ra c r L 0 a b := by
  obtain ⟨m, m1, m2⟩ := g_wy_sf (d := L) (p := 0) (by rw [Nat.zero_add]; exact h)
  have m1' : 0 < (if a = m then 1 else 0) := m1
  by_cases z : a = m
  · rw [z]; exact m2
  · rw [if_neg z] at m1'; omega
theorem g_C_rule {A i j : Nat} (hij : i < j) (hC : g_C x vt rs rl ra lim A i j = 1) (hr : r < lim) (hA : rs r = A) : g_wy x vt ra (g_C x vt rs rl ra lim) r (rl r) i j ≤ 1 := by
  rw [g_C_fix hij] at hC
  have h := s2_1.mp hC
  have k := sm_at (f := fun r => if rs r = A then g_wy x vt ra (g_C x vt rs rl ra lim) r (rl r) i j else 0) hr
  have k' : (if rs r = A then g_wy x vt ra (g_C x vt rs rl ra lim) r (rl r) i j else 0) ≤ sm lim (fun r => if rs r = A then g_wy x vt ra (g_C x vt rs rl ra lim) r (rl r) i j else 0) := k
  rw [if_pos hA] at k'
  omega
theorem g_C_why {A i j : Nat} (hij : i < j) (hC : 0 < g_C x vt rs rl ra lim A i j) : (j = i + 1 ∧ vt (x i) = some A) ∨ ∃ r, r < lim ∧ rs r = A ∧ 0 < g_wy x vt ra (g_C x vt rs rl ra lim) r (rl r) i j := by
  rw [g_C_fix hij] at hC
  have hC' : s2 ((if j = i + 1 ∧ vt (x i) = some A then 1 else 0) + sm lim (fun r => if rs r = A then g_wy x vt ra (g_C x vt rs rl ra lim) r (rl r) i j else 0)) ≠ 0 := by
    have : 0 < s2 ((if j = i + 1 ∧ vt (x i) = some A then 1 else 0) + sm lim (fun r => if rs r = A then g_wy x vt ra (g_C x vt rs rl ra lim) r (rl r) i j else 0)) := hC
    omega
  rw [Ne, s2_0] at hC'
  by_cases z : j = i + 1 ∧ vt (x i) = some A
  · exact Or.inl z
  · rw [if_neg z] at hC'
    obtain ⟨r, hr, h⟩ := sm_pos (show 0 < sm lim (fun r => if rs r = A then g_wy x vt ra (g_C x vt rs rl ra lim) r (rl r) i j else 0) by omega)
    refine Or.inr ⟨r, hr, ?_⟩
    have h' : 0 < (if rs r = A then g_wy x vt ra (g_C x vt rs rl ra lim) r (rl r) i j else 0) := h
    by_cases y : rs r = A
    · rw [if_pos y] at h'; exact ⟨y, h'⟩
    · rw [if_neg y] at h'; omega
/-- numbers that are enough at one stretch, and no more than the count, are the count -/
theorem g_C_min {i j : Nat} (hij : i < j) (h : Nat → Nat) (hle : ∀ A, h A ≤ g_C x vt rs rl ra lim A i j)
    (he : ∀ A, g_F x vt rs rl ra lim (fun B k l => if k = i ∧ l = j then h B else g_C x vt rs rl ra lim B k l) A i j ≤ h A) (A : Nat) : g_C x vt rs rl ra lim A i j ≤ h A := by
  have h2 := g_C_le (x := x) (vt := vt) (rs := rs) (rl := rl) (ra := ra) (lim := lim) (c := fun B k l => if k = i ∧ l = j then h B else g_C x vt rs rl ra lim B k l) ?_ A i j
  · rw [if_pos ⟨rfl, rfl⟩] at h2; exact h2
  · intro B k l hkl
    show _ ≤ (if k = i ∧ l = j then h B else g_C x vt rs rl ra lim B k l)
    by_cases q : k = i ∧ l = j
    · rw [if_pos q]
      obtain ⟨rfl, rfl⟩ := q
      exact he B
    · rw [if_neg q]
      refine Nat.le_trans (g_F_mono (fun D u v _ _ _ => ?_)) (g_C_pre B k l hkl)
      show (if u = i ∧ v = j then h D else g_C x vt rs rl ra lim D u v) ≤ _
      by_cases q2 : u = i ∧ v = j
      · rw [if_pos q2, q2.1, q2.2]; exact hle D
      · rw [if_neg q2]; exact Nat.le_refl _
end SF
def g_lv (b : Nat → Prop) (w : Nat → Nat → Prop) : Nat → Nat → Prop
  | 0, _ => False
  | t + 1, A => b A ∨ ∃ B, w A B ∧ g_lv b w t B
section LV
variable {b : Nat → Prop} {w : Nat → Nat → Prop}
theorem g_lv_up : ∀ {t A : Nat}, g_lv b w t A → g_lv b w (t + 1) A
  | 0, _, h => h.elim
  | t + 1, A, h => by
    rcases h with h | ⟨B, h1, h2⟩
    · exact Or.inl h
    · exact Or.inr ⟨B, h1, g_lv_up h2⟩
noncomputable def g_cnt (so : Nat) (P : Nat → Prop) : Nat := sm so (fun A => @ite Nat (P A) (Classical.propDecidable (P A)) 1 0)
theorem g_cnt_le (so : Nat) (P : Nat → Prop) : g_cnt so P ≤ so := by
  unfold g_cnt
  induction so with
  | zero => exact Nat.le_refl _
  | succ n ih =>
    show sm n _ + _ ≤ n + 1
    refine Nat.add_le_add ih ?_
    by_cases z : P n
    · exact Nat.le_of_eq (if_pos z)
    · exact Nat.le_trans (Nat.le_of_eq (if_neg z)) (Nat.zero_le _)
theorem g_cnt_lt {so : Nat} {P Q : Nat → Prop} (h : ∀ A, P A → Q A) {A : Nat} (hA : A < so) (h1 : Q A) (h2 : ¬ P A) : g_cnt so P < g_cnt so Q := by
  refine sm_lt (k := A) (fun j _ => ?_) hA ?_
  · by_cases z : P j
    · rw [if_pos z, if_pos (h j z)]; exact Nat.le_refl _
    · rw [if_neg z]; exact Nat.zero_le _
  · rw [if_neg h2, if_pos h1]; omega
theorem g_lv_cnt {so : Nat} (hw : ∀ A B, w A B → B < so) : ∀ {t A : Nat}, A < so → g_lv b w (t + 1) A → ¬ g_lv b w t A → t + 1 ≤ g_cnt so (g_lv b w (t + 1))
  | 0, A, hA, h1, h2 => by
    have := g_cnt_lt (P := g_lv b w 0) (Q := g_lv b w 1) (fun _ z => z.elim) hA h1 h2
    show 1 ≤ g_cnt so (g_lv b w 1)
    omega
  | t + 1, A, hA, h1, h2 => by
    have k := g_cnt_lt (P := g_lv b w (t + 1)) (Q := g_lv b w (t + 1 + 1)) (fun _ z => g_lv_up z) hA h1 h2
    rcases h1 with h | ⟨B, w1, w2⟩
    · exact absurd (Or.inl h) h2
    · have n1 : ¬ g_lv b w t B := fun z => h2 (Or.inr ⟨B, w1, z⟩)
      have := g_lv_cnt hw (t := t) (hw A B w1) w2 n1
      omega
noncomputable def g_e (b : Nat → Prop) (w : Nat → Nat → Prop) (A : Nat) : Nat := @dite Nat (∃ t, g_lv b w t A) (Classical.propDecidable (∃ t, g_lv b w t A)) (fun h => Classical.choose (pk_least (fun t => g_lv b w t A) h)) (fun _ => 0)
theorem g_e_at {A : Nat} (h : ∃ t, g_lv b w t A) : g_lv b w (g_e b w A) A ∧ ∀ s, s < g_e b w A → ¬ g_lv b w s A := by
  have e : g_e b w A = Classical.choose (pk_least (fun t => g_lv b w t A) h) := dif_pos h
  rw [e]
  exact Classical.choose_spec (pk_least (fun t => g_lv b w t A) h)
theorem g_e_le {A t : Nat} (h : g_lv b w t A) : g_e b w A ≤ t := by
  rcases Nat.lt_or_ge t (g_e b w A) with q | q
  · exact absurd h ((g_e_at ⟨t, h⟩).2 t q)
  · exact q
theorem g_e_1 {A : Nat} (h : ∃ t, g_lv b w t A) : 1 ≤ g_e b w A := by
  have k := (g_e_at h).1
  rcases Nat.eq_zero_or_pos (g_e b w A) with z | z
  · rw [z] at k; exact k.elim
  · exact z
theorem g_e_so {so A : Nat} (hw : ∀ A B, w A B → B < so) (hA : A < so) (h : ∃ t, g_lv b w t A) : g_e b w A ≤ so := by
  obtain ⟨k1, k2⟩ := g_e_at h
  have k3 := g_e_1 h
  obtain ⟨t, ht⟩ : ∃ t, g_e b w A = t + 1 := ⟨g_e b w A - 1, by omega⟩
  rw [ht] at k1 k2 ⊢
  exact Nat.le_trans (g_lv_cnt hw hA k1 (k2 t (Nat.lt_succ_self t))) (g_cnt_le _ _)
end LV
section LC
variable {x : Nat → Nat} {vt : Nat → Option Nat} {rs rl : Nat → Nat} {ra : Nat → Nat → Nat} {lim so i j : Nat}
/-- where levels are counted -/
def g_lb (x : Nat → Nat) (vt : Nat → Option Nat) (rs rl : Nat → Nat) (ra : Nat → Nat → Nat) (lim : Nat) (c : Nat → Nat → Nat → Nat) (i j A : Nat) : Prop := 0 < g_b x vt rs rl ra lim c A i j
def g_lw (vt : Nat → Option Nat) (rs rl : Nat → Nat) (ra : Nat → Nat → Nat) (lim A B : Nat) : Prop := 0 < g_um vt rs rl ra lim A B
theorem g_lw_lt (hso : ∀ r, r < lim → ∀ B, vt (ra r 0) = some B → B < so) (A B : Nat) (h : g_lw vt rs rl ra lim A B) : B < so := by
  obtain ⟨r, hr, h1⟩ := sm_pos h
  have h1' : 0 < (if rs r = A ∧ rl r = 1 ∧ vt (ra r 0) = some B then 1 else 0) := h1
  by_cases z : rs r = A ∧ rl r = 1 ∧ vt (ra r 0) = some B
  · exact hso r hr B z.2.2
  · rw [if_neg z] at h1'; omega
theorem g_lv_pos (hij : i < j) (h1 : ∀ r, r < lim → 1 ≤ rl r) (hso : ∀ r, r < lim → ∀ B, vt (ra r 0) = some B → B < so) : ∀ {t A : Nat}, g_lv (g_lb x vt rs rl ra lim (g_C x vt rs rl ra lim) i j) (g_lw vt rs rl ra lim) t A → 0 < g_C x vt rs rl ra lim A i j
  | 0, _, h => h.elim
  | t + 1, A, h => by
    rw [g_C_eqn (so := so) hij h1 hso]
    refine Nat.pos_of_ne_zero (fun z => ?_)
    rw [s2_0] at z
    rcases h with h | ⟨B, w1, w2⟩
    · have h' : 0 < g_b x vt rs rl ra lim (g_C x vt rs rl ra lim) A i j := h
      omega
    · have k := sm_at (f := fun B => g_um vt rs rl ra lim A B * g_C x vt rs rl ra lim B i j) (g_lw_lt (rs := rs) (rl := rl) hso A B w1)
      have k2 : 0 < g_um vt rs rl ra lim A B * g_C x vt rs rl ra lim B i j := Nat.mul_pos w1 (g_lv_pos hij h1 hso w2)
      have k' : g_um vt rs rl ra lim A B * g_C x vt rs rl ra lim B i j ≤ sm so (fun B => g_um vt rs rl ra lim A B * g_C x vt rs rl ra lim B i j) := k
      omega
theorem g_lv_ex (hij : i < j) (h1 : ∀ r, r < lim → 1 ≤ rl r) (hso : ∀ r, r < lim → ∀ B, vt (ra r 0) = some B → B < so) {A : Nat} (hC : 0 < g_C x vt rs rl ra lim A i j) : ∃ t, g_lv (g_lb x vt rs rl ra lim (g_C x vt rs rl ra lim) i j) (g_lw vt rs rl ra lim) t A := by
  classical
  let P : Nat → Prop := fun A => ∃ t, g_lv (g_lb x vt rs rl ra lim (g_C x vt rs rl ra lim) i j) (g_lw vt rs rl ra lim) t A
  let h : Nat → Nat := fun A => if P A then g_C x vt rs rl ra lim A i j else 0
  have hle : ∀ A, h A ≤ g_C x vt rs rl ra lim A i j := fun A => by
    show (if P A then g_C x vt rs rl ra lim A i j else 0) ≤ _
    by_cases z : P A
    · rw [if_pos z]; exact Nat.le_refl _
    · rw [if_neg z]; exact Nat.zero_le _
  have key := g_C_min (x := x) (vt := vt) (rs := rs) (rl := rl) (ra := ra) (lim := lim) hij h hle (fun A => by
    rw [g_F_split (so := so) hij h1 hso h A]
    by_cases z : P A
    · have e : h A = g_C x vt rs rl ra lim A i j := if_pos z
      rw [e, g_C_eqn (so := so) hij h1 hso]
      exact s2_mono (Nat.add_le_add_left (sm_le (fun B _ => Nat.mul_le_mul_left _ (hle B))) _)
    · have e : h A = 0 := if_neg z
      rw [e]
      have b0 : g_b x vt rs rl ra lim (g_C x vt rs rl ra lim) A i j = 0 := Nat.eq_zero_of_not_pos (fun y => z ⟨1, Or.inl y⟩)
      have s0 : sm so (fun B => g_um vt rs rl ra lim A B * h B) = 0 := sm_0 (fun B _ => by
        by_cases y : P B
        · obtain ⟨t, ht⟩ := y
          have : g_um vt rs rl ra lim A B = 0 := Nat.eq_zero_of_not_pos (fun v => z ⟨t + 1, Or.inr ⟨B, v, ht⟩⟩)
          rw [this, Nat.zero_mul]
        · have : h B = 0 := if_neg y
          rw [this, Nat.mul_zero])
      rw [b0, s0]
      exact Nat.le_refl _) A
  have key' : g_C x vt rs rl ra lim A i j ≤ (if P A then g_C x vt rs rl ra lim A i j else 0) := key
  by_cases z : P A
  · exact z
  · rw [if_neg z] at key'; omega
/-- the level -/
noncomputable def g_el (x : Nat → Nat) (vt : Nat → Option Nat) (rs rl : Nat → Nat) (ra : Nat → Nat → Nat) (lim A i j : Nat) : Nat := g_e (g_lb x vt rs rl ra lim (g_C x vt rs rl ra lim) i j) (g_lw vt rs rl ra lim) A
theorem g_el_rng (hij : i < j) (h1 : ∀ r, r < lim → 1 ≤ rl r) (hso : ∀ r, r < lim → ∀ B, vt (ra r 0) = some B → B < so) {A : Nat} (hA : A < so) (hC : 0 < g_C x vt rs rl ra lim A i j) : 1 ≤ g_el x vt rs rl ra lim A i j ∧ g_el x vt rs rl ra lim A i j ≤ so :=
  ⟨g_e_1 (g_lv_ex hij h1 hso hC), g_e_so (fun A B h => g_lw_lt hso A B h) hA (g_lv_ex hij h1 hso hC)⟩
/-- the only tree of a sort is a tree of another sort, by a rule of one variable: that other sort's level is less -/
theorem g_el_lt (hij : i < j) (h1 : ∀ r, r < lim → 1 ≤ rl r) (hso : ∀ r, r < lim → ∀ B, vt (ra r 0) = some B → B < so) {A B r : Nat} (hC : g_C x vt rs rl ra lim A i j = 1) (hr : r < lim) (hA : rs r = A) (hl : rl r = 1) (hv : vt (ra r 0) = some B) (hB : 0 < g_C x vt rs rl ra lim B i j) : g_el x vt rs rl ra lim B i j < g_el x vt rs rl ra lim A i j := by
  have ex := g_lv_ex (x := x) (rs := rs) (rl := rl) hij h1 hso (A := A) (by omega)
  obtain ⟨k1, k2⟩ := g_e_at ex
  have k3 := g_e_1 ex
  have eA : g_el x vt rs rl ra lim A i j = g_e (g_lb x vt rs rl ra lim (g_C x vt rs rl ra lim) i j) (g_lw vt rs rl ra lim) A := rfl
  obtain ⟨t, ht⟩ : ∃ t, g_el x vt rs rl ra lim A i j = t + 1 := ⟨g_el x vt rs rl ra lim A i j - 1, by omega⟩
  rw [← eA, ht] at k1
  rw [ht]
  have hw : g_lw vt rs rl ra lim A B := by
    have k := sm_at (f := fun r => if rs r = A ∧ rl r = 1 ∧ vt (ra r 0) = some B then 1 else 0) hr
    have k' : (if rs r = A ∧ rl r = 1 ∧ vt (ra r 0) = some B then 1 else 0) ≤ g_um vt rs rl ra lim A B := k
    rw [if_pos ⟨hA, hl, hv⟩] at k'
    exact k'
  have hBs := g_lw_lt (rs := rs) (rl := rl) hso A B hw
  have eqn := g_C_eqn (x := x) (rs := rs) (rl := rl) (so := so) hij h1 hso A
  rw [hC] at eqn
  have sum1 := s2_1.mp eqn.symm
  have tB : 0 < g_um vt rs rl ra lim A B * g_C x vt rs rl ra lim B i j := Nat.mul_pos hw hB
  have sB := sm_at (f := fun B => g_um vt rs rl ra lim A B * g_C x vt rs rl ra lim B i j) hBs
  have sB' : g_um vt rs rl ra lim A B * g_C x vt rs rl ra lim B i j ≤ sm so (fun B => g_um vt rs rl ra lim A B * g_C x vt rs rl ra lim B i j) := sB
  rcases k1 with h | ⟨D, w1, w2⟩
  · have h' : 0 < g_b x vt rs rl ra lim (g_C x vt rs rl ra lim) A i j := h
    omega
  · by_cases z : D = B
    · rw [z] at w2
      have := g_e_le w2
      show g_e (g_lb x vt rs rl ra lim (g_C x vt rs rl ra lim) i j) (g_lw vt rs rl ra lim) B < t + 1
      omega
    · have hDs := g_lw_lt (rs := rs) (rl := rl) hso A D w1
      have tD : 0 < g_um vt rs rl ra lim A D * g_C x vt rs rl ra lim D i j := Nat.mul_pos w1 (g_lv_pos hij h1 hso w2)
      have s2' : g_um vt rs rl ra lim A D * g_C x vt rs rl ra lim D i j + g_um vt rs rl ra lim A B * g_C x vt rs rl ra lim B i j ≤ sm so (fun B => g_um vt rs rl ra lim A B * g_C x vt rs rl ra lim B i j) := sm_at2 (f := fun B => g_um vt rs rl ra lim A B * g_C x vt rs rl ra lim B i j) hDs hBs z
      omega
end LC
