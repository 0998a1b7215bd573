/-! treesOf of the class: the chart holds the counts -/
theorem bv_add {P Q : Int64} {s w : Nat} (hs : s < 60) (hw : w ≤ 2) (h1 : ∀ k, bb Q k = true → bb P k = true) (h0 : bb P s = false) :
    (∀ k, bb (if w = 2 then Q ||| bI s else Q) k = true → bb (if 0 < w then P ||| bI s else P) k = true) ∧ (∀ k, bv (if 0 < w then P ||| bI s else P) (if w = 2 then Q ||| bI s else Q) k = if k = s then w else bv P Q k) ∧ (∀ k, bb (if 0 < w then P ||| bI s else P) k = true → bb P k = true ∨ k = s) := by
  have bP : ∀ k, bb (if 0 < w then P ||| bI s else P) k = (bb P k || (decide (0 < w) && decide (k = s))) := by
    intro k
    by_cases q : 0 < w
    · rw [if_pos q, bb_or, bb_bI (by omega)]; simp [q]
    · rw [if_neg q]; simp [q]
  have bQ : ∀ k, bb (if w = 2 then Q ||| bI s else Q) k = (bb Q k || (decide (w = 2) && decide (k = s))) := by
    intro k
    by_cases q : w = 2
    · rw [if_pos q, bb_or, bb_bI (by omega)]; simp [q]
    · rw [if_neg q]; simp [q]
  have q0 : bb Q s = false := by
    cases hb : bb Q s with
    | false => rfl
    | true => rw [h1 s hb] at h0; cases h0
  refine ⟨fun k hk => ?_, fun k => ?_, fun k hk => ?_⟩
  · rw [bQ] at hk
    rw [bP]
    by_cases q : k = s
    · subst q
      rw [q0] at hk
      have : w = 2 := by simpa using hk
      simp [this]
    · have : bb Q k = true := by simpa [q] using hk
      rw [h1 k this]; rfl
  · unfold bv
    rw [bP, bQ]
    by_cases q : k = s
    · subst q
      rw [if_pos rfl, h0, q0]
      have : w = 0 ∨ w = 1 ∨ w = 2 := by omega
      rcases this with z | z | z <;> subst z <;> simp
    · rw [if_neg q]
      simp [q]
  · rw [bP] at hk
    by_cases q : k = s
    · exact Or.inr q
    · left
      simpa [q] using hk
/-- the chart when the starts behind s are done, and of s the ends below e -/
def c_chart (C : Nat → Nat → Nat → Nat) (so to s e : Nat) (st sv : Nat → Int64) : Prop := ∀ A, A < so → ∀ j, j ≤ to → (∀ k, bb (sv (A * 60 + j)) k = true → bb (st (A * 60 + j)) k = true) ∧ ∀ k, bv (st (A * 60 + j)) (sv (A * 60 + j)) k = if (s < k ∧ k < j) ∨ (k = s ∧ s < j ∧ j < e) then C A k j else 0
def c_ends (C : Nat → Nat → Nat → Nat) (so s e : Nat) (en ev : Nat → Int64) : Prop := ∀ A, A < so → (∀ k, bb (ev A) k = true → bb (en A) k = true) ∧ (∀ k, bb (en A) k = true → k < 60) ∧ ∀ k, bv (en A) (ev A) k = if s < k ∧ k < e then C A s k else 0
section TR
variable {n sz so : Nat} {ty rk : Nat → Option Nat} {cl us : Nat} {op : Bool} {rs fi al : Nat → Nat} {S_size S_sorts : Int32} {S_types S_ranks S_typeRanks : Nat → Int32} {R_closed R_used R_isOpen : Int32} {R_sorts R_all R_firsts R_newestWraps R_olderWraps : Nat → Int32} {u : Nat} {ln : Nat} {rw_ : Nat → Nat} {W_length : Int32} {W_row : Nat → Int32}
theorem p_treesL60 (hn : 40000 ≤ n) (hm : m_S sz so ty rk) (ha : a_S sz so ty rk S_size S_sorts S_types S_ranks S_typeRanks) (hR : m_R sz ty rk cl us op rs fi al) (hA : a_R ty rk cl us op rs fi al R_closed R_used R_isOpen R_sorts R_all R_firsts R_newestWraps R_olderWraps) (hW : m_W sz ln rw_) (hw : a_W ln rw_ W_length W_row) (hu : u ≤ cl)
    {s to : Nat} (hto : to ≤ ln) :
    ∀ (k e : Nat) (C_queued : Int32) (st sv en ev reach sevR : Nat → Int64) (C_found C_queue : Nat → Int32), s < e → e ≤ to + 1 → to + 1 - e < k → c_chart (m_C ty rk rs fi al rw_ u) so to s e st sv → c_ends (m_C ty rk rs fi al rw_ u) so s e en ev → (∀ z, z < u → c_rr ty rk fi al rw_ (m_C ty rk rs fi al rw_ u) s (to - s) e z reach sevR) →
    ∃ w C_queued' st' sv' en' ev' reach' sevR' C_found' C_queue', f_Chart_treesOf_L60 n (nI s) (nI to) S_size S_sorts S_types S_ranks S_typeRanks R_closed R_used R_sorts R_all R_firsts R_newestWraps R_olderWraps W_length W_row (nI u) k (nI e) C_queued st sv en ev reach sevR C_found C_queue = some (w, C_queued', st', sv', en', ev', reach', sevR', C_found', C_queue') ∧ c_chart (m_C ty rk rs fi al rw_ u) so to s (to + 1) st' sv' := by
  have h59 := hW.1
  have hso := hm.2.1
  intro k
  induction k with
  | zero => intro e C_queued st sv en ev reach sevR C_found C_queue _ _ h; exact absurd h (Nat.not_lt_zero _)
  | succ k ih =>
    intro e C_queued st sv en ev reach sevR C_found C_queue hse he hk hch hen hrr
    rw [f_Chart_treesOf_L60]
    by_cases h : to < e
    · have e1 : e = to + 1 := by omega
      subst e1
      rw [if_pos (by rw [i_lt (by omega) (by omega)]; exact h)]
      exact ⟨_, _, _, _, _, _, _, _, _, _, rfl, hch⟩
    · rw [if_neg (by rw [i_lt (by omega) (by omega)]; exact h)]
      obtain ⟨q1, reach1, sevR1, fo1, qu1, f1, f2, f3⟩ := p_findTrees (n := n) (C_starts := st) (C_severalStarts := sv) (C_ends := en) (C_severalEnds := ev) hn hm ha hR hA hW hw hu hse (show e ≤ to by omega) hto
        (fun A hA2 => ⟨(hch A hA2 e (by omega)).1, fun k => by
          rw [(hch A hA2 e (by omega)).2 k]
          by_cases z : s < k ∧ k < e
          · rw [if_pos z, if_pos (Or.inl z)]
          · rw [if_neg z, if_neg (fun w => w.elim z (fun v => by omega))]⟩)
        (fun A hA2 => ⟨(hen A hA2).1, (hen A hA2).2.1, fun k hk2 => by
          rw [(hen A hA2).2.2 k]
          by_cases z : s < k
          · rw [if_pos z, if_pos ⟨z, hk2⟩]
          · rw [if_neg z, if_neg (fun w => z w.1)]⟩) reach sevR C_found C_queue hrr
      rw [f1, bind_some]
      obtain ⟨w, st1, sv1, en1, ev1, k1, k2, k3, k4⟩ := p_keepL (n := n) (f := fun A => m_C ty rk rs fi al rw_ u A s e) hso (show s < 60 by omega) (show e < 60 by omega) (fun A hA2 => ⟨f2 A hA2, m_C_2 hse⟩) n 0 st sv en ev (Nat.zero_le _) (by omega)
      have k1' : f_Chart_keepFound n S_sorts st sv en ev fo1 (nI s) (nI e) = some (st1, sv1, en1, ev1) := by
        unfold f_Chart_keepFound
        rw [ha.2.1, show (0 : Int32) = nI 0 from rfl, k1, bind_some]
      rw [k1', bind_some, nI_1]
      refine ih (e + 1) q1 st1 sv1 en1 ev1 reach1 sevR1 fo1 qu1 (by omega) (by omega) (by omega) (fun A hA2 j hj => ?_) (fun A hA2 => ?_) f3
      · obtain ⟨c1, c2⟩ := hch A hA2 j hj
        by_cases z : j = e
        · subst z
          obtain ⟨d1, d2, -, -⟩ := k2 A (Nat.zero_le _) hA2
          have hz : bb (st (A * 60 + j)) s = false := by
            have := c2 s
            rw [if_neg (by omega)] at this
            exact bv_0 this
          obtain ⟨b1, b2, -⟩ := bv_add (show s < 60 by omega) (m_C_2 hse) c1 hz
          rw [d1, d2]
          refine ⟨b1, fun k => ?_⟩
          rw [b2 k]
          by_cases y : k = s
          · rw [if_pos y, if_pos (Or.inr ⟨y, hse, Nat.lt_succ_self j⟩), y]
          · rw [if_neg y, c2 k]
            by_cases x : s < k ∧ k < j
            · rw [if_pos (Or.inl x), if_pos (Or.inl x)]
            · rw [if_neg (fun w => w.elim x (fun v => y v.1)), if_neg (fun w => w.elim x (fun v => y v.1))]
        · obtain ⟨d1, d2⟩ := k3 (A * 60 + j) (fun B b1 b2 => by omega)
          rw [d1, d2]
          refine ⟨c1, fun k => ?_⟩
          rw [c2 k]
          by_cases x : (s < k ∧ k < j) ∨ (k = s ∧ s < j ∧ j < e)
          · rw [if_pos x, if_pos (x.elim Or.inl (fun v => Or.inr ⟨v.1, v.2.1, by omega⟩))]
          · rw [if_neg x, if_neg (fun w => x (w.elim Or.inl (fun v => Or.inr ⟨v.1, v.2.1, by omega⟩)))]
      · obtain ⟨c1, c2, c3⟩ := hen A hA2
        obtain ⟨-, -, d1, d2⟩ := k2 A (Nat.zero_le _) hA2
        have hz : bb (en A) e = false := by
          have := c3 e
          rw [if_neg (by omega)] at this
          exact bv_0 this
        obtain ⟨b1, b2, b3⟩ := bv_add (show e < 60 by omega) (m_C_2 (ty := ty) (rk := rk) (rs := rs) (fi := fi) (al := al) (rw_ := rw_) (u := u) (A := A) hse) c1 hz
        rw [d1, d2]
        refine ⟨b1, fun k hk2 => (b3 k hk2).elim (c2 k) (fun v => by omega), fun k => ?_⟩
        rw [b2 k]
        by_cases y : k = e
        · rw [if_pos y, if_pos ⟨by omega, by omega⟩, y]
        · rw [if_neg y, c3 k]
          by_cases x : s < k ∧ k < e
          · rw [if_pos x, if_pos ⟨x.1, by omega⟩]
          · rw [if_neg x, if_neg (fun w => x ⟨w.1, by omega⟩)]
end TR
