/-! One stretch: what the rules of several symbols, of one constant, and a variable alone give (gb); what rules of one variable add (um). -/
section GL
variable {x : Nat → Nat} {vt : Nat → Option Nat} {rs rl : Nat → Nat} {ra : Nat → Nat → Nat} {lim : Nat}
theorem sm_if1 {n : Nat} {f : Nat → Nat} {k : Nat} (h : k < n) : sm n (fun j => if j = k then f j else 0) = f k := by
  rw [sm_one (k := k) h (fun j _ hj => if_neg hj), if_pos rfl]
end GL
def g_b (x : Nat → Nat) (vt : Nat → Option Nat) (rs rl : Nat → Nat) (ra : Nat → Nat → Nat) (lim : Nat) (c : Nat → Nat → Nat → Nat) (A i j : Nat) : Nat :=
  (if j = i + 1 ∧ vt (x i) = some A then 1 else 0) + sm lim (fun r => if rs r = A then (if rl r = 1 then (if vt (ra r 0) = none ∧ j = i + 1 ∧ x i = ra r 0 then 1 else 0) else g_wy x vt ra c r (rl r) i j) else 0)
def g_um (vt : Nat → Option Nat) (rs rl : Nat → Nat) (ra : Nat → Nat → Nat) (lim A B : Nat) : Nat := sm lim (fun r => if rs r = A ∧ rl r = 1 ∧ vt (ra r 0) = some B then 1 else 0)
section GM
variable {x : Nat → Nat} {vt : Nat → Option Nat} {rs rl : Nat → Nat} {ra : Nat → Nat → Nat} {lim : Nat} {c : Nat → Nat → Nat → Nat}
theorem g_F_split {so i j : Nat} (hij : i < j) (h1 : ∀ r, r < lim → 1 ≤ rl r) (hso : ∀ r, r < lim → ∀ B, vt (ra r 0) = some B → B < so) (f : Nat → Nat) (A : Nat) :
    g_F x vt rs rl ra lim (fun B k l => if k = i ∧ l = j then f B else c B k l) A i j = s2 (g_b x vt rs rl ra lim c A i j + sm so (fun B => g_um vt rs rl ra lim A B * f B)) := by
  unfold g_F g_b
  rw [Nat.add_assoc]
  congr 1
  congr 1
  have e : sm so (fun B => g_um vt rs rl ra lim A B * f B) = sm lim (fun r => sm so (fun B => (if rs r = A ∧ rl r = 1 ∧ vt (ra r 0) = some B then 1 else 0) * f B)) := by
    rw [sm_swap]
    refine sm_congr (fun B _ => ?_)
    unfold g_um
    rw [sm_mulr]
  rw [e, ← sm_add]
  refine sm_congr (fun r hr => ?_)
  by_cases hA : rs r = A
  · rw [if_pos hA, if_pos hA]
    by_cases hl : rl r = 1
    · rw [if_pos hl, hl, g_wy_1 hij]
      unfold g_sp
      cases hv : vt (ra r 0) with
      | none =>
        rw [sm_0 (fun B _ => by rw [if_neg (fun q => by simp at q), Nat.zero_mul])]
        simp
      | some B =>
        have hB := hso r hr B hv
        rw [sm_one (k := B) hB (fun D _ hD => by rw [if_neg (fun q => hD (Option.some.inj q.2.2).symm), Nat.zero_mul])]
        simp [hA, hij]
    · rw [if_neg hl, sm_0 (fun B _ => by rw [if_neg (fun q => hl q.2.1), Nat.zero_mul]), Nat.add_zero]
      refine g_wy_strict (by have := h1 r hr; omega) (fun D k l _ _ _ hne => if_neg hne)
  · rw [if_neg hA, if_neg hA, sm_0 (fun B _ => by rw [if_neg (fun q => hA q.1), Nat.zero_mul])]
/-- the count of one stretch, by its own equations: enough, and least -/
theorem g_C_by {so i j : Nat} (hij : i < j) (h1 : ∀ r, r < lim → 1 ≤ rl r) (hso : ∀ r, r < lim → ∀ B, vt (ra r 0) = some B → B < so) (f : Nat → Nat)
    (he : ∀ A, s2 (g_b x vt rs rl ra lim (g_C x vt rs rl ra lim) A i j + sm so (fun B => g_um vt rs rl ra lim A B * f B)) ≤ f A)
    (hl : ∀ h : Nat → Nat, (∀ A, s2 (g_b x vt rs rl ra lim (g_C x vt rs rl ra lim) A i j + sm so (fun B => g_um vt rs rl ra lim A B * h B)) ≤ h A) → ∀ A, f A ≤ h A) (A : Nat) : f A = g_C x vt rs rl ra lim A i j := by
  refine g_C_local hij f (fun A => ?_) (fun h hh => hl h (fun A => ?_)) A
  · rw [g_F_split hij h1 hso]; exact he A
  · have := hh A
    rw [g_F_split hij h1 hso] at this
    exact this
theorem g_C_eqn {so i j : Nat} (hij : i < j) (h1 : ∀ r, r < lim → 1 ≤ rl r) (hso : ∀ r, r < lim → ∀ B, vt (ra r 0) = some B → B < so) (A : Nat) :
    g_C x vt rs rl ra lim A i j = s2 (g_b x vt rs rl ra lim (g_C x vt rs rl ra lim) A i j + sm so (fun B => g_um vt rs rl ra lim A B * g_C x vt rs rl ra lim B i j)) := by
  rw [← g_F_split (x := x) hij h1 hso (fun B => g_C x vt rs rl ra lim B i j) A, g_C_fix hij]
  refine g_F_congr (fun B k l _ _ _ => ?_)
  by_cases q : k = i ∧ l = j
  · rw [if_pos q, q.1, q.2]
  · rw [if_neg q]
end GM
/-- how often a number stands among the first m of a row of numbers -/
def ct (q : Nat → Nat) (m B : Nat) : Nat := sm m (fun t => if q t = B then 1 else 0)
theorem ct_sum {q : Nat → Nat} {m so : Nat} (h : ∀ t, t < m → q t < so) (g : Nat → Nat) : sm m (fun t => g (q t)) = sm so (fun B => g B * ct q m B) := by
  have e : sm so (fun B => g B * ct q m B) = sm m (fun t => sm so (fun B => g B * (if q t = B then 1 else 0))) := by
    rw [sm_swap]
    refine sm_congr (fun B _ => ?_)
    unfold ct
    rw [sm_mul]
  rw [e]
  refine sm_congr (fun t ht => ?_)
  rw [sm_one (k := q t) (h t ht) (fun B _ hB => by rw [if_neg (Ne.symm hB), Nat.mul_zero]), if_pos rfl, Nat.mul_one]
