/-! Numbers as the machine has them: rules for deciding the tests that the functions make. -/
theorem i_lit (k : Nat) : (OfNat.ofNat k : Int32) = nI (OfNat.ofNat k) := rfl
theorem i_lt {a b : Nat} (hb : b < 2 ^ 31) (ha : a < 2 ^ 31) : (nI a < nI b) = (a < b) := propext (nI_ltI ha hb)
theorem i_le {a b : Nat} (hb : b < 2 ^ 31) (ha : a < 2 ^ 31) : (nI a ≤ nI b) = (a ≤ b) := propext (nI_leI ha hb)
theorem i_eq {a b : Nat} (hb : b < 2 ^ 31) (ha : a < 2 ^ 31) : (nI a = nI b) = (a = b) := propext (nI_eq ha hb)
theorem i_lt0 {a : Nat} (ha : a < 2 ^ 31) : (nI a < 0) = False := eq_false (nI_pos ha)
theorem i_eq0 {a : Nat} (ha : a < 2 ^ 31) : (nI a = 0) = (a = 0) := by rw [← nI_0]; exact i_eq (by decide) ha
theorem i_le0 {a : Nat} (ha : a < 2 ^ 31) : (nI a ≤ 0) = (a = 0) := by
  rw [← nI_0, i_le (by decide) ha]
  exact propext (by omega)
theorem i_0lt {a : Nat} (ha : a < 2 ^ 31) : ((0 : Int32) < nI a) = (0 < a) := by rw [← nI_0]; exact i_lt ha (by decide)
theorem i_m1 {a : Nat} (ha : a < 2 ^ 31) : (nI a = -1) = False := by
  refine eq_false (fun h => ?_)
  have h1 := nI_toInt ha
  rw [h] at h1
  have h2 : (-1 : Int32).toInt = -1 := by decide
  rw [h2] at h1
  omega
theorem i_m1' {a : Nat} (ha : a < 2 ^ 31) : ((-1 : Int32) = nI a) = False := by
  rw [← i_m1 ha]; exact propext eq_comm
theorem x_gI {α : Type} {k N : Nat} {a : Option α} (h : k < N) (hN : N < 2 ^ 31) : x_g (nI k) N a = a := x_gin (vp_in_nI h hN)
theorem i_cl {k : Nat} (h : k < 2 ^ 31) : (nI k).toNatClampNeg = k := nI_clamp h
theorem i_add (a b : Nat) : nI a + nI b = nI (a + b) := nI_add a b
theorem i_sub {a b : Nat} (h : b ≤ a) : nI a - nI b = nI (a - b) := pk_sub h
theorem i_mul (a b : Nat) : nI a * nI b = nI (a * b) := pk_mul a b
theorem bind_some {α β : Type} (a : α) (f : α → Option β) : (some a).bind f = f a := rfl
/-- a number that a caller gives: below 0, too large, or a place -/
theorem i_any (a : Int32) {n : Nat} (hn : n < 2 ^ 31) : a < 0 ∨ nI n ≤ a ∨ ∃ j, j < n ∧ a = nI j := pk_ix a hn
