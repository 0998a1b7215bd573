/-! The trees of a sort for a stretch, counted up to two: the least numbers that the rules ask for. x: the row; vt: a variable's sort; rs, rl, ra: a rule's sort, length, symbols. -/
def g_sp (x : Nat → Nat) (vt : Nat → Option Nat) (c : Nat → Nat → Nat → Nat) (s i j : Nat) : Nat := match vt s with
  | none => if j = i + 1 ∧ x i = s then 1 else 0
  | some t => if i < j then c t i j else 0
def g_wy (x : Nat → Nat) (vt : Nat → Option Nat) (ra : Nat → Nat → Nat) (c : Nat → Nat → Nat → Nat) (r : Nat) : Nat → Nat → Nat → Nat
  | 0, i, j => if i = j then 1 else 0
  | p + 1, i, j => sm j (fun k => g_wy x vt ra c r p i k * g_sp x vt c (ra r p) k j)
def g_F (x : Nat → Nat) (vt : Nat → Option Nat) (rs rl : Nat → Nat) (ra : Nat → Nat → Nat) (lim : Nat) (c : Nat → Nat → Nat → Nat) (A i j : Nat) : Nat :=
  s2 ((if j = i + 1 ∧ vt (x i) = some A then 1 else 0) + sm lim (fun r => if rs r = A then g_wy x vt ra c r (rl r) i j else 0))
section GR
variable {x : Nat → Nat} {vt : Nat → Option Nat} {rs rl : Nat → Nat} {ra : Nat → Nat → Nat} {lim : Nat} {c c' : Nat → Nat → Nat → Nat}
theorem g_sp_mono {s i j : Nat} (h : ∀ A, i < j → c A i j ≤ c' A i j) : g_sp x vt c s i j ≤ g_sp x vt c' s i j := by
  unfold g_sp
  cases vt s with
  | none => exact Nat.le_refl _
  | some t =>
    show (if i < j then c t i j else 0) ≤ (if i < j then c' t i j else 0)
    by_cases q : i < j
    · rw [if_pos q, if_pos q]; exact h t q
    · rw [if_neg q, if_neg q]; exact Nat.le_refl _
theorem g_sp_0 {s i j : Nat} (h : j ≤ i) : g_sp x vt c s i j = 0 := by
  unfold g_sp
  cases vt s with
  | none => exact if_neg (by omega)
  | some t => exact if_neg (by omega)
theorem g_wy_0 {r : Nat} : ∀ {p i j : Nat}, j < i + p → g_wy x vt ra c r p i j = 0
  | 0, i, j, h => if_neg (by omega)
  | p + 1, i, j, h => by
    show sm j (fun k => g_wy x vt ra c r p i k * g_sp x vt c (ra r p) k j) = 0
    refine sm_0 (fun k hk => ?_)
    rw [g_wy_0 (p := p) (i := i) (j := k) (by omega), Nat.zero_mul]
theorem g_wy_mono {r : Nat} : ∀ {p i j : Nat}, (∀ A k l, i ≤ k → k < l → l ≤ j → c A k l ≤ c' A k l) → g_wy x vt ra c r p i j ≤ g_wy x vt ra c' r p i j
  | 0, i, j, _ => Nat.le_refl _
  | p + 1, i, j, h => by
    show sm j (fun k => g_wy x vt ra c r p i k * g_sp x vt c (ra r p) k j) ≤ sm j (fun k => g_wy x vt ra c' r p i k * g_sp x vt c' (ra r p) k j)
    refine sm_le (fun k hk => ?_)
    rcases Nat.lt_or_ge k i with q | q
    · rw [g_wy_0 (show k < i + p by omega), Nat.zero_mul]; exact Nat.zero_le _
    · exact Nat.mul_le_mul (g_wy_mono (fun A a b h1 h2 h3 => h A a b h1 h2 (by omega))) (g_sp_mono (fun A h1 => h A k j q h1 (Nat.le_refl j)))
theorem g_wy_congr {r p i j : Nat} (h : ∀ A k l, i ≤ k → k < l → l ≤ j → c A k l = c' A k l) : g_wy x vt ra c r p i j = g_wy x vt ra c' r p i j :=
  Nat.le_antisymm (g_wy_mono (fun A k l h1 h2 h3 => Nat.le_of_eq (h A k l h1 h2 h3))) (g_wy_mono (fun A k l h1 h2 h3 => Nat.le_of_eq (h A k l h1 h2 h3).symm))
theorem g_sp_congr {s i j : Nat} (h : ∀ A, i < j → c A i j = c' A i j) : g_sp x vt c s i j = g_sp x vt c' s i j :=
  Nat.le_antisymm (g_sp_mono (fun A q => Nat.le_of_eq (h A q))) (g_sp_mono (fun A q => Nat.le_of_eq (h A q).symm))
/-- a rule of two symbols or more needs only stretches that are less than the whole -/
theorem g_wy_strict {r p i j : Nat} (hp : 2 ≤ p) (h : ∀ A k l, i ≤ k → k < l → l ≤ j → ¬ (k = i ∧ l = j) → c A k l = c' A k l) : g_wy x vt ra c r p i j = g_wy x vt ra c' r p i j := by
  obtain ⟨q, rfl⟩ : ∃ q, p = q + 1 := ⟨p - 1, by omega⟩
  show sm j (fun k => g_wy x vt ra c r q i k * g_sp x vt c (ra r q) k j) = sm j (fun k => g_wy x vt ra c' r q i k * g_sp x vt c' (ra r q) k j)
  refine sm_congr (fun k hk => ?_)
  rcases Nat.lt_or_ge k (i + q) with a | a
  · rw [g_wy_0 a, g_wy_0 a, Nat.zero_mul, Nat.zero_mul]
  · rw [g_wy_congr (fun A u v h1 h2 h3 => h A u v h1 h2 (by omega) (by omega)), g_sp_congr (fun A h1 => h A k j (by omega) h1 (Nat.le_refl j) (by omega))]
theorem g_wy_1 {r i j : Nat} (h : i < j) : g_wy x vt ra c r 1 i j = g_sp x vt c (ra r 0) i j := by
  show sm j (fun k => g_wy x vt ra c r 0 i k * g_sp x vt c (ra r 0) k j) = _
  rw [sm_one (k := i) h (fun k _ hn => by show (if i = k then 1 else 0) * _ = 0; rw [if_neg (fun e => hn e.symm), Nat.zero_mul])]
  show (if i = i then 1 else 0) * _ = _
  rw [if_pos rfl, Nat.one_mul]
theorem g_F_mono {A i j : Nat} (h : ∀ A k l, i ≤ k → k < l → l ≤ j → c A k l ≤ c' A k l) : g_F x vt rs rl ra lim c A i j ≤ g_F x vt rs rl ra lim c' A i j := by
  refine s2_mono (Nat.add_le_add_left (sm_le (fun r _ => ?_)) _)
  by_cases q : rs r = A
  · rw [if_pos q, if_pos q]; exact g_wy_mono h
  · rw [if_neg q, if_neg q]; exact Nat.le_refl _
theorem g_F_congr {A i j : Nat} (h : ∀ A k l, i ≤ k → k < l → l ≤ j → c A k l = c' A k l) : g_F x vt rs rl ra lim c A i j = g_F x vt rs rl ra lim c' A i j :=
  Nat.le_antisymm (g_F_mono (fun A k l h1 h2 h3 => Nat.le_of_eq (h A k l h1 h2 h3))) (g_F_mono (fun A k l h1 h2 h3 => Nat.le_of_eq (h A k l h1 h2 h3).symm))
end GR
/-- numbers that are enough -/
def g_pre (x : Nat → Nat) (vt : Nat → Option Nat) (rs rl : Nat → Nat) (ra : Nat → Nat → Nat) (lim : Nat) (c : Nat → Nat → Nat → Nat) : Prop := ∀ A i j, i < j → g_F x vt rs rl ra lim c A i j ≤ c A i j
theorem g_ex (x : Nat → Nat) (vt : Nat → Option Nat) (rs rl : Nat → Nat) (ra : Nat → Nat → Nat) (lim A i j : Nat) : ∃ n, (∃ c, g_pre x vt rs rl ra lim c ∧ c A i j = n) ∧ ∀ m, m < n → ¬ ∃ c, g_pre x vt rs rl ra lim c ∧ c A i j = m :=
  pk_least (fun n => ∃ c, g_pre x vt rs rl ra lim c ∧ c A i j = n) ⟨2, fun _ _ _ => 2, fun _ _ _ _ => s2_le _, rfl⟩
/-- how many trees of the sort A the stretch from i to j has, by the rules below lim: 0, 1, 2 for more -/
noncomputable def g_C (x : Nat → Nat) (vt : Nat → Option Nat) (rs rl : Nat → Nat) (ra : Nat → Nat → Nat) (lim A i j : Nat) : Nat := Classical.choose (g_ex x vt rs rl ra lim A i j)
section GC
variable {x : Nat → Nat} {vt : Nat → Option Nat} {rs rl : Nat → Nat} {ra : Nat → Nat → Nat} {lim : Nat}
theorem g_C_le {c : Nat → Nat → Nat → Nat} (h : g_pre x vt rs rl ra lim c) (A i j : Nat) : g_C x vt rs rl ra lim A i j ≤ c A i j := by
  have hs := Classical.choose_spec (g_ex x vt rs rl ra lim A i j)
  rcases Nat.lt_or_ge (c A i j) (g_C x vt rs rl ra lim A i j) with q | q
  · exact absurd ⟨c, h, rfl⟩ (hs.2 _ q)
  · exact q
theorem g_C_pre : g_pre x vt rs rl ra lim (g_C x vt rs rl ra lim) := by
  intro A i j hij
  obtain ⟨⟨c, h1, h2⟩, -⟩ := Classical.choose_spec (g_ex x vt rs rl ra lim A i j)
  have h3 : c A i j = g_C x vt rs rl ra lim A i j := h2
  rw [← h3]
  exact Nat.le_trans (g_F_mono (fun A k l _ _ _ => g_C_le h1 A k l)) (h1 A i j hij)
theorem g_C_fix {A i j : Nat} (hij : i < j) : g_C x vt rs rl ra lim A i j = g_F x vt rs rl ra lim (g_C x vt rs rl ra lim) A i j := by
  refine Nat.le_antisymm ?_ (g_C_pre A i j hij)
  have h := g_C_le (x := x) (vt := vt) (rs := rs) (rl := rl) (ra := ra) (lim := lim) (c := fun A k l => if k < l then g_F x vt rs rl ra lim (g_C x vt rs rl ra lim) A k l else g_C x vt rs rl ra lim A k l) ?_ A i j
  · rw [if_pos hij] at h; exact h
  · intro A k l hkl
    show _ ≤ (if k < l then g_F x vt rs rl ra lim (g_C x vt rs rl ra lim) A k l else g_C x vt rs rl ra lim A k l)
    rw [if_pos hkl]
    refine g_F_mono (fun B u v _ h2 _ => ?_)
    show (if u < v then g_F x vt rs rl ra lim (g_C x vt rs rl ra lim) B u v else g_C x vt rs rl ra lim B u v) ≤ _
    rw [if_pos h2]
    exact g_C_pre B u v h2
theorem g_C_2 (A i j : Nat) (hij : i < j) : g_C x vt rs rl ra lim A i j ≤ 2 := by
  rw [g_C_fix hij]; exact s2_le _
/-- one stretch: numbers that hold there, and are the least that do, are the count -/
theorem g_C_local {i j : Nat} (hij : i < j) (f : Nat → Nat)
    (he : ∀ A, g_F x vt rs rl ra lim (fun B k l => if k = i ∧ l = j then f B else g_C x vt rs rl ra lim B k l) A i j ≤ f A)
    (hl : ∀ h : Nat → Nat, (∀ A, g_F x vt rs rl ra lim (fun B k l => if k = i ∧ l = j then h B else g_C x vt rs rl ra lim B k l) A i j ≤ h A) → ∀ A, f A ≤ h A) (A : Nat) : f A = g_C x vt rs rl ra lim A i j := by
  have h1 : ∀ A, f A ≤ g_C x vt rs rl ra lim A i j := by
    refine hl (fun A => g_C x vt rs rl ra lim A i j) (fun A => ?_)
    have e : (fun B k l => if k = i ∧ l = j then g_C x vt rs rl ra lim B i j else g_C x vt rs rl ra lim B k l) = g_C x vt rs rl ra lim := by
      funext B k l
      by_cases q : k = i ∧ l = j
      · rw [if_pos q, q.1, q.2]
      · rw [if_neg q]
    rw [e]
    exact g_C_pre A i j hij
  refine Nat.le_antisymm (h1 A) ?_
  have h2 := g_C_le (x := x) (vt := vt) (rs := rs) (rl := rl) (ra := ra) (lim := lim) (c := fun B k l => if k = i ∧ l = j then f B else g_C x vt rs rl ra lim B k l) ?_ A i j
  · rw [if_pos ⟨rfl, rfl⟩] at h2; exact h2
  · intro B k l hkl
    show _ ≤ (if k = i ∧ l = j then f B else g_C x vt rs rl ra lim B k l)
    by_cases q : k = i ∧ l = j
    · rw [if_pos q]
      obtain ⟨rfl, rfl⟩ := q
      exact he B
    · rw [if_neg q]
      refine Nat.le_trans (g_F_mono (fun D u v _ _ _ => ?_)) (g_C_pre B k l hkl)
      show (if u = i ∧ v = j then f D else g_C x vt rs rl ra lim D u v) ≤ _
      by_cases q2 : u = i ∧ v = j
      · rw [if_pos q2, q2.1, q2.2]; exact h1 D
      · rw [if_neg q2]; exact Nat.le_refl _
end GC
