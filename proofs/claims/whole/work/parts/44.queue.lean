/-! Trees found for the stretch at hand, and their queue: qs is the row of ranks queued, q how many. -/
def c_q (so : Nat) (qs : Nat → Nat) (q : Nat) (C_queued : Int32) (C_found C_queue : Nat → Int32) : Prop :=
  C_queued = nI q ∧ (∀ t, t < q → C_queue t = nI (qs t) ∧ qs t < so) ∧ ∀ A, A < so → C_found A = nI (ct qs q A) ∧ ct qs q A ≤ 2
theorem ct_total {qs : Nat → Nat} {q so : Nat} (h : ∀ t, t < q → qs t < so) : q = sm so (fun A => ct qs q A) := by
  have h1 := ct_sum h (fun _ => 1)
  have h2 : ∀ m, sm m (fun _ => 1) = m := fun m => by
    induction m with
    | zero => rfl
    | succ m ih => show sm m (fun _ => 1) + 1 = m + 1; rw [ih]
  rw [h2] at h1
  rw [h1]
  refine sm_congr (fun A _ => ?_)
  rw [← h1, Nat.one_mul]
theorem sm_lt2 : ∀ {n : Nat} {f : Nat → Nat} {k : Nat}, (∀ j, j < n → f j ≤ 2) → k < n → f k < 2 → sm n f < 2 * n
  | 0, _, _, _, h, _ => absurd h (Nat.not_lt_zero _)
  | n + 1, f, k, h, hk, hf => by
    show sm n f + f n < 2 * (n + 1)
    have h2 : ∀ m, m ≤ n → sm m f ≤ 2 * m := fun m => by
      induction m with
      | zero => intro _; exact Nat.le_refl 0
      | succ m ih =>
        intro hm
        show sm m f + f m ≤ 2 * (m + 1)
        have := ih (by omega)
        have := h m (by omega)
        omega
    by_cases q : k = n
    · subst q
      have := h2 k (Nat.le_refl k)
      omega
    · have := sm_lt2 (n := n) (f := f) (k := k) (fun j hj => h j (by omega)) (by omega) hf
      have := h n (by omega)
      omega
theorem c_q_room {so q : Nat} {qs : Nat → Nat} {C_queued : Int32} {C_found C_queue : Nat → Int32} (h : c_q so qs q C_queued C_found C_queue) {A : Nat} (hA : A < so) (h2 : ct qs q A < 2) (hso : so ≤ 100) : q < 200 := by
  have h1 := ct_total (fun t ht => (h.2.1 t ht).2)
  have h3 := sm_lt2 (f := fun A => ct qs q A) (fun j hj => (h.2.2 j hj).2) hA h2
  omega
theorem c_q_le {so q : Nat} {qs : Nat → Nat} {C_queued : Int32} {C_found C_queue : Nat → Int32} (h : c_q so qs q C_queued C_found C_queue) (hso : so ≤ 100) : q ≤ 200 := by
  have h1 := ct_total (fun t ht => (h.2.1 t ht).2)
  have h2 : ∀ m, m ≤ so → sm m (fun A => ct qs q A) ≤ 2 * m := fun m => by
    induction m with
    | zero => intro _; exact Nat.le_refl 0
    | succ m ih =>
      intro hm
      show sm m (fun A => ct qs q A) + ct qs q m ≤ 2 * (m + 1)
      have := ih (by omega)
      have := (h.2.2 m (by omega)).2
      omega
  have := h2 so (Nat.le_refl so)
  omega
theorem sm_le2 : ∀ {n : Nat} {f : Nat → Nat} {k : Nat}, (∀ j, j < n → f j ≤ 2) → k < n → sm n f + (2 - f k) ≤ 2 * n
  | 0, _, _, _, h => absurd h (Nat.not_lt_zero _)
  | n + 1, f, k, h, hk => by
    show sm n f + f n + (2 - f k) ≤ 2 * (n + 1)
    have h2 : ∀ m, m ≤ n → sm m f ≤ 2 * m := fun m => by
      induction m with
      | zero => intro _; exact Nat.le_refl 0
      | succ m ih =>
        intro hm
        show sm m f + f m ≤ 2 * (m + 1)
        have := ih (by omega)
        have := h m (by omega)
        omega
    by_cases q : k = n
    · subst q
      have := h2 k (Nat.le_refl k)
      have := h k (by omega)
      omega
    · have := sm_le2 (n := n) (f := f) (k := k) (fun j hj => h j (by omega)) (by omega)
      have := h n (by omega)
      omega
theorem c_q_rest {so q : Nat} {qs : Nat → Nat} {C_queued : Int32} {C_found C_queue : Nat → Int32} (h : c_q so qs q C_queued C_found C_queue) {A : Nat} (hA : A < so) (hso : so ≤ 100) : q + (2 - ct qs q A) ≤ 200 := by
  have h1 := ct_total (fun t ht => (h.2.1 t ht).2)
  have h3 := sm_le2 (f := fun A => ct qs q A) (fun j hj => (h.2.2 j hj).2) hA
  have h4 : sm so (fun A => ct qs q A) + (2 - ct qs q A) ≤ 2 * so := h3
  omega
/-- one more in the row -/
theorem ct_snoc {qs : Nat → Nat} {q A B : Nat} : ct (m_up qs q A) (q + 1) B = ct qs q B + (if A = B then 1 else 0) := by
  show sm q (fun t => if m_up qs q A t = B then 1 else 0) + (if m_up qs q A q = B then 1 else 0) = _
  rw [m_up_s]
  congr 1
  refine sm_congr (fun t ht => ?_)
  rw [m_up_n (Nat.ne_of_lt ht)]
theorem c_q_add {so q : Nat} {qs : Nat → Nat} {C_queued : Int32} {C_found C_queue : Nat → Int32} (h : c_q so qs q C_queued C_found C_queue) {A : Nat} (hA : A < so) (h2 : ct qs q A < 2) :
    c_q so (m_up qs q A) (q + 1) (nI (q + 1)) (upd C_found A (nI (ct qs q A + 1))) (upd C_queue q (nI A)) := by
  refine ⟨rfl, fun t ht => ?_, fun B hB => ?_⟩
  · by_cases z : t = q
    · rw [z, m_up_s, pk_us]; exact ⟨rfl, hA⟩
    · rw [m_up_n z, pk_un z]; exact h.2.1 t (by omega)
  · rw [ct_snoc]
    by_cases z : B = A
    · subst z
      rw [pk_us, if_pos rfl]; exact ⟨rfl, by omega⟩
    · rw [pk_un z, if_neg (fun w => z w.symm)]; exact h.2.2 B hB
section AT
variable {n sz so : Nat} {ty rk : Nat → Option Nat} {S_size S_sorts : Int32} {S_types S_ranks S_typeRanks : Nat → Int32}
theorem p_addL {A m ro : Nat} (hA : A < so) (hso : so ≤ 100) (hm : m ≤ 2) : ∀ (k j : Nat) (q : Nat) (qs : Nat → Nat) (C_queued : Int32) (C_found C_queue : Nat → Int32), j ≤ m → m - j < k → c_q so qs q C_queued C_found C_queue → ro = j + (2 - ct qs q A) →
    ∃ v qs' q' C_queued' C_found' C_queue', f_Chart_addTrees_L43 n (nI ro) (nI A) (nI m) k (nI j) C_queued C_found C_queue = some (v, C_queued', C_found', C_queue') ∧ c_q so qs' q' C_queued' C_found' C_queue' ∧ q ≤ q' ∧ (∀ t, t < q → qs' t = qs t) ∧ (∀ t, q ≤ t → t < q' → qs' t = A) ∧ ∀ B, ct qs' q' B = if B = A then s2 (ct qs q A + (m - j)) else ct qs q B := by
  intro k
  induction k with
  | zero => intro j q qs C_queued C_found C_queue _ h; exact absurd h (Nat.not_lt_zero _)
  | succ k ih =>
    intro j q qs C_queued C_found C_queue hj hk hq hro
    have hcA := hq.2.2 A hA
    have same : ∀ B, ct qs q B = if B = A then s2 (ct qs q A + 0) else ct qs q B := fun B => by
      by_cases z : B = A
      · rw [if_pos z, z, Nat.add_zero, s2_id hcA.2]
      · rw [if_neg z]
    rw [f_Chart_addTrees_L43]
    by_cases h1 : m ≤ j
    · rw [if_pos (by rw [i_le (by omega) (by omega)]; exact h1)]
      refine ⟨_, qs, q, _, _, _, rfl, hq, Nat.le_refl q, fun _ _ => rfl, fun t h2 h3 => by omega, fun B => ?_⟩
      rw [show m - j = 0 by omega]; exact same B
    · rw [if_neg (by rw [i_le (by omega) (by omega)]; exact h1)]
      by_cases h2 : 2 ≤ ct qs q A
      · rw [if_pos (by rw [i_le (by omega) (by omega)]; omega)]
        refine ⟨_, qs, q, _, _, _, rfl, hq, Nat.le_refl q, fun _ _ => rfl, fun t h2 h3 => by omega, fun B => ?_⟩
        by_cases z : B = A
        · rw [if_pos z, z, s2_2.mpr (by omega)]; omega
        · rw [if_neg z]
      · have hr := c_q_room hq hA (by omega) hso
        rw [if_neg (by rw [i_le (by omega) (by omega)]; omega), x_gI (by omega) (by decide), x_gI (by omega) (by decide), hq.1, x_gI (by omega) (by decide), nI_clamp (show A < 2 ^ 31 by omega), nI_clamp (show q < 2 ^ 31 by omega), hcA.1, nI_1, nI_1, nI_1]
        obtain ⟨v, qs', q', a1, a2, a3, g1, g2, g3, g4, g5, g6⟩ := ih (j + 1) (q + 1) (m_up qs q A) _ _ _ (by omega) (by omega) (c_q_add hq hA (by omega)) (by rw [ct_snoc, if_pos rfl]; omega)
        refine ⟨v, qs', q', a1, a2, a3, g1, g2, by omega, fun t ht => ?_, fun t h3 h4 => ?_, fun B => ?_⟩
        · rw [g4 t (by omega), m_up_n (by omega)]
        · by_cases z : t = q
          · rw [z, g4 q (by omega), m_up_s]
          · exact g5 t (by omega) h4
        · rw [g6, ct_snoc, ct_snoc, if_pos rfl]
          by_cases z : B = A
          · rw [if_pos z, if_pos z]
            congr 1
            omega
          · rw [if_neg z, if_neg z, if_neg (fun w => z w.symm), Nat.add_zero]
theorem p_addTrees (hn : 40000 ≤ n) (hm : m_S sz so ty rk) (ha : a_S sz so ty rk S_size S_sorts S_types S_ranks S_typeRanks) {j A m : Nat} (hj : j < sz) (hA : rk j = some A) (hm2 : m ≤ 2) {q : Nat} {qs : Nat → Nat} {C_queued : Int32} {C_found C_queue : Nat → Int32} (hq : c_q so qs q C_queued C_found C_queue) :
    ∃ qs' q' C_queued' C_found' C_queue', f_Chart_addTrees n S_size S_ranks C_queued C_found C_queue (nI j) (nI m) = some (C_queued', C_found', C_queue') ∧ c_q so qs' q' C_queued' C_found' C_queue' ∧ q ≤ q' ∧ (∀ t, t < q → qs' t = qs t) ∧ (∀ t, q ≤ t → t < q' → qs' t = A) ∧ ∀ B, ct qs' q' B = if B = A then s2 (ct qs q A + m) else ct qs q B := by
  have hAs := (hm.2.2.2.1 j A hA).2.1
  have hso := hm.2.1
  have hcA := hq.2.2 A hAs
  have hre := c_q_rest hq hAs hso
  obtain ⟨v, qs', q', a1, a2, a3, g1, g2, g3, g4, g5, g6⟩ := p_addL (n := n) (ro := 2 - ct qs q A) hAs hso hm2 n 0 q qs C_queued C_found C_queue (Nat.zero_le _) (by omega) hq (by omega)
  have e1 : (200 : Int32) - nI q = nI (200 - q) := i_sub (a := 200) (b := q) (by omega)
  have e2 : (2 : Int32) - nI (ct qs q A) = nI (2 - ct qs q A) := i_sub (a := 2) (b := ct qs q A) (by omega)
  have eR : (if (200 : Int32) - C_queued < (2 : Int32) - C_found A then (200 : Int32) - C_queued else (2 : Int32) - C_found A) = nI (2 - ct qs q A) := by
    rw [hq.1, hcA.1, e1, e2, if_neg (by rw [i_lt (by omega) (by omega)]; omega)]
  refine ⟨qs', q', a1, a2, a3, ?_, g2, g3, g4, g5, fun B => by rw [g6, Nat.sub_zero]⟩
  unfold f_Chart_addTrees
  rw [p_rankOf hm ha hj, bind_some, hA, oI_some, p_isRank (by omega), bind_some, if_neg (show ¬ (1 : Int32) = 0 by decide), x_gI (by omega) (by decide), nI_clamp (show A < 2 ^ 31 by omega), eR]
  rw [show (0 : Int32) = nI 0 from rfl, g1, bind_some]
end AT
