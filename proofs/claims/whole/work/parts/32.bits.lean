/-! Sets of places in a long. -/
def bb (w : Int64) (i : Nat) : Bool := w.toBitVec.getLsbD i
theorem bb_and (a b : Int64) (i : Nat) : bb (a &&& b) i = (bb a i && bb b i) := by simp [bb]
theorem bb_or (a b : Int64) (i : Nat) : bb (a ||| b) i = (bb a i || bb b i) := by simp [bb]
theorem bb_0 (i : Nat) : bb 0 i = false := by simp [bb]
theorem bb_big {w : Int64} {i : Nat} (h : 64 ≤ i) : bb w i = false := by
  unfold bb
  exact BitVec.getLsbD_of_ge _ _ h
theorem bb_zero {w : Int64} : w = 0 ↔ ∀ i, bb w i = false := by
  constructor
  · intro h i; rw [h]; exact bb_0 i
  · intro h
    apply Int64.toBitVec_inj.mp
    apply BitVec.eq_of_getLsbD_eq
    intro i _
    rw [show w.toBitVec.getLsbD i = false from h i]
    exact (bb_0 i).symm
theorem bb_bit0 : ∀ k, k < 64 → ((1 : Int64) <<< ((nI k).toInt64 &&& 63)).toBitVec = BitVec.twoPow 64 k := by decide +kernel
theorem bb_bit {k i : Nat} (hk : k < 64) : bb ((1 : Int64) <<< ((nI k).toInt64 &&& 63)) i = decide (i = k) := by
  unfold bb
  rw [bb_bit0 k hk, BitVec.getLsbD_twoPow]
  by_cases h : i = k
  · subst h; simp [hk]
  · simp [h, Ne.symm h]
theorem bb_nat (w : Int64) (i : Nat) : bb w i = (w.toBitVec.toNat).testBit i := by
  unfold bb
  exact (BitVec.testBit_toNat _).symm
theorem nat_pred_bit {n j : Nat} (h : n % 2 ^ j ≠ 0) : (n - 1).testBit j = n.testBit j := by
  have hp : 0 < 2 ^ j := Nat.two_pow_pos j
  have e : (n - 1) / 2 ^ j = n / 2 ^ j := by
    have h1 := Nat.div_add_mod n (2 ^ j)
    have h2 := Nat.mod_lt n hp
    have h3 : n - 1 = 2 ^ j * (n / 2 ^ j) + (n % 2 ^ j - 1) := by omega
    rw [h3, Nat.mul_add_div hp, Nat.div_eq_of_lt (show n % 2 ^ j - 1 < 2 ^ j by omega), Nat.add_zero]
  rw [Nat.testBit_eq_decide_div_mod_eq, Nat.testBit_eq_decide_div_mod_eq, e]
theorem nat_low_bit {n i j : Nat} (hij : i < j) (h : n.testBit i = true) : n % 2 ^ j ≠ 0 := by
  intro q
  have h1 : (n % 2 ^ j).testBit i = true := by rw [Nat.testBit_mod_two_pow]; simp [hij, h]
  rw [q] at h1
  simp at h1
/-- at most one place -/
theorem bb_one {w : Int64} : (w &&& (w - 1)) = 0 ↔ ∀ i j, bb w i = true → bb w j = true → i = j := by
  constructor
  · intro h i j hi hj
    have key : ∀ i j, i < j → bb w i = true → bb w j = true → False := by
      intro i j hij hi hj
      have hz : bb (w &&& (w - 1)) j = false := by rw [h]; exact bb_0 j
      rw [bb_and, hj, Bool.true_and] at hz
      have hj64 : j < 64 := by
        rcases Nat.lt_or_ge j 64 with q | q
        · exact q
        · rw [bb_big q] at hj; cases hj
      rw [bb_nat] at hi hj hz
      have hn : 0 < w.toBitVec.toNat := by
        rcases Nat.eq_zero_or_pos w.toBitVec.toNat with q | q
        · rw [q] at hi; simp at hi
        · exact q
      have hlt := w.toBitVec.isLt
      have e : (w - 1).toBitVec.toNat = w.toBitVec.toNat - 1 := by
        have e1 : (w - 1).toBitVec = w.toBitVec - 1#64 := by simp
        rw [e1, BitVec.toNat_sub]
        simp
        omega
      rw [e, nat_pred_bit (nat_low_bit hij hi), hj] at hz
      cases hz
    rcases Nat.lt_trichotomy i j with q | q | q
    · exact absurd (key i j q hi hj) id
    · exact q
    · exact absurd (key j i q hj hi) id
  · intro h
    apply bb_zero.mpr
    intro j
    rw [bb_and]
    cases hj : bb w j with
    | false => rfl
    | true =>
      have hj64 : j < 64 := by
        rcases Nat.lt_or_ge j 64 with q | q
        · exact q
        · rw [bb_big q] at hj; cases hj
      have e : w = (1 : Int64) <<< ((nI j).toInt64 &&& 63) := by
        apply Int64.toBitVec_inj.mp
        apply BitVec.eq_of_getLsbD_eq
        intro i _
        show bb w i = bb _ i
        rw [bb_bit hj64]
        cases hi : bb w i with
        | true => simp [h i j hi hj]
        | false =>
          by_cases q : i = j
          · subst q; rw [hj] at hi; cases hi
          · simp [q]
      have key : ∀ j, j < 64 → bb (((1 : Int64) <<< ((nI j).toInt64 &&& 63)) - 1) j = false := by decide +kernel
      rw [Bool.true_and, e]
      exact key j hj64
theorem lc_0 {a b : Int64} : lg_cmp a b = 0 ↔ a = b := by
  unfold lg_cmp
  constructor
  · intro h
    split at h
    · exact absurd h (by decide)
    · split at h
      · assumption
      · exact absurd h (by decide)
  · intro h
    subst h
    simp
