/-! The class's chart: sets of places as numbers 0, 1, 2; going on from one set to another. -/
def bI (k : Nat) : Int64 := (1 : Int64) <<< ((nI k).toInt64 &&& 63)
theorem bb_bI {k i : Nat} (hk : k < 64) : bb (bI k) i = decide (i = k) := bb_bit hk
theorem p_bit (n k : Nat) : f_Top_bit n (nI k) = some (bI k) := rfl
theorem bb_and_bI {w : Int64} {k : Nat} (hk : k < 64) : (w &&& bI k) = 0 ↔ bb w k = false := by
  rw [bb_zero]
  constructor
  · intro h
    have := h k
    rw [bb_and, bb_bI hk] at this
    simpa using this
  · intro h i
    rw [bb_and, bb_bI hk]
    by_cases q : i = k
    · rw [q, h]; rfl
    · simp [q]
theorem p_hasBit {n : Nat} {w : Int64} {k : Nat} (hk : k < 64) : f_Top_hasBit n w (nI k) = some (if bb w k = true then 1 else 0) := by
  unfold f_Top_hasBit
  rw [p_bit, bind_some]
  cases hb : bb w k with
  | false => rw [if_pos (lc_0.mpr ((bb_and_bI hk).mpr hb)), if_neg (by decide)]
  | true => rw [if_neg (fun h => by rw [(bb_and_bI hk).mp (lc_0.mp h)] at hb; cases hb), if_pos rfl]
/-- two sets, the second within the first, as numbers up to two -/
def bv (p q : Int64) (k : Nat) : Nat := if bb q k = true then 2 else if bb p k = true then 1 else 0
theorem bv_le (p q : Int64) (k : Nat) : bv p q k ≤ 2 := by
  unfold bv
  split
  · exact Nat.le_refl 2
  · split <;> omega
/-- the number of ways to go on: by the sets, as the class tells it -/
def wb (p q s t : Int64) : Nat := if (p &&& s) = 0 then 0 else if ((p &&& s) &&& ((p &&& s) - 1)) = 0 then (if ((p &&& s) &&& (q ||| t)) = 0 then 1 else 2) else 2
theorem wb_sum {p q s t : Int64} {N : Nat} (h1 : ∀ k, bb q k = true → bb p k = true) (h2 : ∀ k, bb t k = true → bb s k = true) (hN : ∀ k, bb p k = true → bb s k = true → k < N) : wb p q s t = s2 (sm N (fun k => bv p q k * bv s t k)) := by
  have z : ∀ k, bb (p &&& s) k = false → bv p q k * bv s t k = 0 := by
    intro k hk
    rw [bb_and] at hk
    unfold bv
    cases hp : bb p k with
    | false =>
      have hq : ¬ bb q k = true := fun w => by rw [h1 k w] at hp; cases hp
      rw [if_neg hq, if_neg (by decide), Nat.zero_mul]
    | true =>
      rw [hp, Bool.true_and] at hk
      have ht : ¬ bb t k = true := fun w => by rw [h2 k w] at hk; cases hk
      rw [if_neg ht, hk, if_neg (show ¬ false = true by decide), Nat.mul_zero]
  have pos : ∀ k, bb (p &&& s) k = true → 1 ≤ bv p q k ∧ 1 ≤ bv s t k ∧ k < N := by
    intro k hk
    rw [bb_and, Bool.and_eq_true] at hk
    refine ⟨?_, ?_, hN k hk.1 hk.2⟩
    · unfold bv
      split
      · omega
      · rw [if_pos hk.1]; omega
    · unfold bv
      split
      · omega
      · rw [if_pos hk.2]; omega
  unfold wb
  by_cases c0 : (p &&& s) = 0
  · rw [if_pos c0, sm_0 (fun k _ => z k (bb_zero.mp c0 k))]
    rfl
  · rw [if_neg c0]
    obtain ⟨k, hk⟩ : ∃ k, bb (p &&& s) k = true := by
      apply Classical.byContradiction
      intro h
      exact c0 (bb_zero.mpr (fun i => by
        cases hi : bb (p &&& s) i with
        | false => rfl
        | true => exact absurd ⟨i, hi⟩ h))
    obtain ⟨a1, a2, a3⟩ := pos k hk
    by_cases c1 : ((p &&& s) &&& ((p &&& s) - 1)) = 0
    · rw [if_pos c1]
      have only := bb_one.mp c1
      have e : sm N (fun k => bv p q k * bv s t k) = bv p q k * bv s t k := sm_one a3 (fun i _ hi => z i (by
        cases hb : bb (p &&& s) i with
        | false => rfl
        | true => exact absurd (only i k hb hk) hi))
      rw [e]
      by_cases c2 : ((p &&& s) &&& (q ||| t)) = 0
      · rw [if_pos c2]
        have hz := bb_zero.mp c2 k
        rw [bb_and, hk, Bool.true_and, bb_or, Bool.or_eq_false_iff] at hz
        rw [bb_and, Bool.and_eq_true] at hk
        have e1 : bv p q k = 1 := by unfold bv; rw [if_neg (by rw [hz.1]; decide), if_pos hk.1]
        have e2 : bv s t k = 1 := by unfold bv; rw [if_neg (by rw [hz.2]; decide), if_pos hk.2]
        rw [e1, e2]
        rfl
      · rw [if_neg c2]
        have : bb q k = true ∨ bb t k = true := by
          apply Classical.byContradiction
          intro h
          refine c2 (bb_zero.mpr (fun i => ?_))
          rw [bb_and]
          cases hb : bb (p &&& s) i with
          | false => rfl
          | true =>
            have hi := only i k hb hk
            rw [hi, Bool.true_and, bb_or]
            cases hq : bb q k with
            | true => exact absurd (Or.inl hq) h
            | false =>
              cases ht : bb t k with
              | true => exact absurd (Or.inr ht) h
              | false => rfl
        have h2 : 2 ≤ bv p q k * bv s t k := by
          rcases this with w | w
          · have : bv p q k = 2 := by unfold bv; rw [if_pos w]
            rw [this]; omega
          · have : bv s t k = 2 := by unfold bv; rw [if_pos w]
            rw [this]; omega
        exact (s2_2.mpr h2).symm
    · rw [if_neg c1]
      have : ∃ i j, i ≠ j ∧ bb (p &&& s) i = true ∧ bb (p &&& s) j = true := by
        apply Classical.byContradiction
        intro h
        refine c1 (bb_one.mpr (fun i j hi hj => ?_))
        apply Classical.byContradiction
        intro hn
        exact h ⟨i, j, hn, hi, hj⟩
      obtain ⟨i, j, hn, hi, hj⟩ := this
      obtain ⟨b1, b2, b3⟩ := pos i hi
      obtain ⟨d1, d2, d3⟩ := pos j hj
      have h3 := sm_at2 (f := fun k => bv p q k * bv s t k) b3 d3 hn
      have h4 : 1 ≤ bv p q i * bv s t i := Nat.mul_pos b1 b2
      have h5 : 1 ≤ bv p q j * bv s t j := Nat.mul_pos d1 d2
      exact (s2_2.mpr (by omega)).symm
