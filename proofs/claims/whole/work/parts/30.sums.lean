/-! Sums, numbers told apart up to two, least fixed points: what a count of trees is. -/
def sm : Nat → (Nat → Nat) → Nat
  | 0, _ => 0
  | n + 1, f => sm n f + f n
theorem sm_congr : ∀ {n : Nat} {f g : Nat → Nat}, (∀ k, k < n → f k = g k) → sm n f = sm n g
  | 0, _, _, _ => rfl
  | n + 1, f, g, h => by
    show sm n f + f n = sm n g + g n
    rw [sm_congr (n := n) (fun k hk => h k (Nat.lt_succ_of_lt hk)), h n (Nat.lt_succ_self n)]
theorem sm_le : ∀ {n : Nat} {f g : Nat → Nat}, (∀ k, k < n → f k ≤ g k) → sm n f ≤ sm n g
  | 0, _, _, _ => Nat.le_refl 0
  | n + 1, f, g, h => Nat.add_le_add (sm_le (n := n) (fun k hk => h k (Nat.lt_succ_of_lt hk))) (h n (Nat.lt_succ_self n))
theorem sm_0 : ∀ {n : Nat} {f : Nat → Nat}, (∀ k, k < n → f k = 0) → sm n f = 0
  | 0, _, _ => rfl
  | n + 1, f, h => by
    show sm n f + f n = 0
    rw [sm_0 (n := n) (fun k hk => h k (Nat.lt_succ_of_lt hk)), h n (Nat.lt_succ_self n)]
theorem sm_at : ∀ {n : Nat} {f : Nat → Nat} {k : Nat}, k < n → f k ≤ sm n f
  | 0, _, _, h => absurd h (Nat.not_lt_zero _)
  | n + 1, f, k, h => by
    show f k ≤ sm n f + f n
    rcases Nat.lt_or_ge k n with q | q
    · exact Nat.le_trans (sm_at q) (Nat.le_add_right _ _)
    · have e : k = n := by omega
      subst e
      exact Nat.le_add_left _ _
theorem sm_at2 : ∀ {n : Nat} {f : Nat → Nat} {k l : Nat}, k < n → l < n → k ≠ l → f k + f l ≤ sm n f
  | 0, _, _, _, h, _, _ => absurd h (Nat.not_lt_zero _)
  | n + 1, f, k, l, hk, hl, hn => by
    show f k + f l ≤ sm n f + f n
    rcases Nat.lt_or_ge k n with q | q <;> rcases Nat.lt_or_ge l n with r | r
    · exact Nat.le_trans (sm_at2 q r hn) (Nat.le_add_right _ _)
    · have e : l = n := by omega
      subst e
      exact Nat.add_le_add_right (sm_at q) _
    · have e : k = n := by omega
      subst e
      rw [Nat.add_comm]
      exact Nat.add_le_add_right (sm_at r) _
    · omega
theorem sm_one : ∀ {n : Nat} {f : Nat → Nat} {k : Nat}, k < n → (∀ j, j < n → j ≠ k → f j = 0) → sm n f = f k
  | 0, _, _, h, _ => absurd h (Nat.not_lt_zero _)
  | n + 1, f, k, hk, h => by
    show sm n f + f n = f k
    rcases Nat.lt_or_ge k n with q | q
    · rw [sm_one q (fun j hj hn => h j (Nat.lt_succ_of_lt hj) hn), h n (Nat.lt_succ_self n) (by omega)]; rfl
    · have e : k = n := by omega
      subst e
      rw [sm_0 (fun j hj => h j (Nat.lt_succ_of_lt hj) (by omega)), Nat.zero_add]
theorem sm_pos : ∀ {n : Nat} {f : Nat → Nat}, 0 < sm n f → ∃ k, k < n ∧ 0 < f k
  | 0, _, h => absurd h (Nat.lt_irrefl 0)
  | n + 1, f, h => by
    have h : 0 < sm n f + f n := h
    rcases Nat.eq_zero_or_pos (f n) with q | q
    · obtain ⟨k, h1, h2⟩ := sm_pos (n := n) (f := f) (by omega)
      exact ⟨k, Nat.lt_succ_of_lt h1, h2⟩
    · exact ⟨n, Nat.lt_succ_self n, q⟩
theorem sm_add : ∀ {n : Nat} {f g : Nat → Nat}, sm n (fun k => f k + g k) = sm n f + sm n g
  | 0, _, _ => rfl
  | n + 1, f, g => by
    show sm n (fun k => f k + g k) + (f n + g n) = (sm n f + f n) + (sm n g + g n)
    rw [sm_add]; omega
theorem sm_mul : ∀ {n : Nat} {f : Nat → Nat} {c : Nat}, sm n (fun k => c * f k) = c * sm n f
  | 0, _, c => rfl
  | n + 1, f, c => by
    show sm n (fun k => c * f k) + c * f n = c * (sm n f + f n)
    rw [sm_mul, Nat.mul_add]
theorem sm_mulr : ∀ {n : Nat} {f : Nat → Nat} {c : Nat}, sm n (fun k => f k * c) = sm n f * c
  | 0, _, c => (Nat.zero_mul c).symm
  | n + 1, f, c => by
    show sm n (fun k => f k * c) + f n * c = (sm n f + f n) * c
    rw [sm_mulr, Nat.add_mul]
theorem sm_swap : ∀ {n m : Nat} {f : Nat → Nat → Nat}, sm n (fun i => sm m (fun j => f i j)) = sm m (fun j => sm n (fun i => f i j))
  | 0, m, f => (sm_0 (fun _ _ => rfl)).symm
  | n + 1, m, f => by
    show sm n (fun i => sm m (fun j => f i j)) + sm m (fun j => f n j) = sm m (fun j => sm n (fun i => f i j) + f n j)
    rw [sm_swap, sm_add]
theorem sm_ext : ∀ {n m : Nat} {f : Nat → Nat}, n ≤ m → (∀ k, n ≤ k → k < m → f k = 0) → sm m f = sm n f
  | n, 0, f, h, _ => by
    have e : n = 0 := by omega
    subst e; rfl
  | n, m + 1, f, h, z => by
    rcases Nat.lt_or_ge m n with q | q
    · have e : n = m + 1 := by omega
      subst e; rfl
    · show sm m f + f m = sm n f
      rw [sm_ext q (fun k h1 h2 => z k h1 (Nat.lt_succ_of_lt h2)), z m q (Nat.lt_succ_self m)]; rfl
/-- up to two -/
def s2 (a : Nat) : Nat := if a < 2 then a else 2
theorem s2_le (a : Nat) : s2 a ≤ 2 := by unfold s2; split <;> omega
theorem s2_lea (a : Nat) : s2 a ≤ a := by unfold s2; split <;> omega
theorem s2_id {a : Nat} (h : a ≤ 2) : s2 a = a := by unfold s2; split <;> omega
theorem s2_mono {a b : Nat} (h : a ≤ b) : s2 a ≤ s2 b := by unfold s2; split <;> split <;> omega
theorem s2_0 {a : Nat} : s2 a = 0 ↔ a = 0 := by unfold s2; split <;> omega
theorem s2_1 {a : Nat} : s2 a = 1 ↔ a = 1 := by unfold s2; split <;> omega
theorem s2_2 {a : Nat} : s2 a = 2 ↔ 2 ≤ a := by unfold s2; split <;> omega
theorem s2_s2 (a : Nat) : s2 (s2 a) = s2 a := s2_id (s2_le a)
theorem s2_add (a b : Nat) : s2 (a + b) = s2 (s2 a + s2 b) := by
  rcases Nat.lt_or_ge a 2 with h1 | h1 <;> rcases Nat.lt_or_ge b 2 with h2 | h2
  · rw [s2_id (show a ≤ 2 by omega), s2_id (show b ≤ 2 by omega)]
  · rw [s2_2.mpr h2, s2_2.mpr (show 2 ≤ a + b by omega), s2_2.mpr (show 2 ≤ s2 a + 2 by omega)]
  · rw [s2_2.mpr h1, s2_2.mpr (show 2 ≤ a + b by omega), s2_2.mpr (show 2 ≤ 2 + s2 b by omega)]
  · rw [s2_2.mpr h1, s2_2.mpr h2, s2_2.mpr (show 2 ≤ a + b by omega)]
    rfl
theorem s2_addl (a b : Nat) : s2 (s2 a + b) = s2 (a + b) := by rw [s2_add, s2_s2, ← s2_add]
theorem s2_addr (a b : Nat) : s2 (a + s2 b) = s2 (a + b) := by rw [s2_add, s2_s2, ← s2_add]
theorem s2_mul (a b : Nat) : s2 (a * b) = s2 (s2 a * s2 b) := by
  rcases Nat.lt_or_ge a 2 with ha | ha
  · have e : s2 a = a := s2_id (by omega)
    rw [e]
    have : a = 0 ∨ a = 1 := by omega
    rcases this with rfl | rfl
    · simp
    · simp [s2_s2]
  · have e : s2 a = 2 := s2_2.mpr ha
    rw [e]
    rcases Nat.eq_zero_or_pos b with rfl | hb
    · simp [s2]
    · rw [s2_2.mpr (show 2 ≤ a * b from Nat.le_trans ha (Nat.le_mul_of_pos_right a hb))]
      have h1 : 1 ≤ s2 b := by
        rcases Nat.eq_zero_or_pos (s2 b) with q | q
        · rw [s2_0] at q; omega
        · exact q
      exact (s2_2.mpr (by omega)).symm
theorem s2_sm : ∀ {n : Nat} {f : Nat → Nat}, s2 (sm n (fun k => s2 (f k))) = s2 (sm n f)
  | 0, _ => rfl
  | n + 1, f => by
    show s2 (sm n (fun k => s2 (f k)) + s2 (f n)) = s2 (sm n f + f n)
    rw [s2_addr, s2_add, s2_sm, ← s2_add]
theorem s2_smc {n : Nat} {f g : Nat → Nat} (h : ∀ k, k < n → s2 (f k) = s2 (g k)) : s2 (sm n f) = s2 (sm n g) := by
  rw [← s2_sm, sm_congr h, s2_sm]
