/-! keepFound, forgetStretches, forgetStart of the class -/
section KF
variable {n so : Nat}
theorem p_keepL (hso : so ≤ 100) {i e : Nat} (hi : i < 60) (he : e < 60) {f : Nat → Nat} {C_found : Nat → Int32} (hf : ∀ A, A < so → C_found A = nI (f A) ∧ f A ≤ 2) :
    ∀ (k v : Nat) (st sv en ev : Nat → Int64), v ≤ so → so - v < k → ∃ w st' sv' en' ev', f_Chart_keepFound_L2 n (nI i) (nI e) (nI so) C_found k (nI v) st sv en ev = some (w, st', sv', en', ev') ∧
      (∀ A, v ≤ A → A < so → st' (A * 60 + e) = (if 0 < f A then st (A * 60 + e) ||| bI i else st (A * 60 + e)) ∧ sv' (A * 60 + e) = (if f A = 2 then sv (A * 60 + e) ||| bI i else sv (A * 60 + e)) ∧ en' A = (if 0 < f A then en A ||| bI e else en A) ∧ ev' A = (if f A = 2 then ev A ||| bI e else ev A)) ∧
      (∀ p, (∀ A, v ≤ A → A < so → p ≠ A * 60 + e) → st' p = st p ∧ sv' p = sv p) ∧ (∀ A, A < v → en' A = en A ∧ ev' A = ev A) := by
  intro k
  induction k with
  | zero => intro v st sv en ev _ h; exact absurd h (Nat.not_lt_zero _)
  | succ k ih =>
    intro v st sv en ev hv hk
    rw [f_Chart_keepFound_L2]
    unfold f_Symbols_sorts
    rw [bind_some]
    by_cases h : so ≤ v
    · rw [if_pos (by rw [i_le (by omega) (by omega)]; exact h)]
      exact ⟨_, _, _, _, _, rfl, fun A h1 h2 => by omega, fun _ _ => ⟨rfl, rfl⟩, fun _ _ => ⟨rfl, rfl⟩⟩
    · have hpl : nI v * (60 : Int32) + nI e = nI (v * 60 + e) := by rw [i_lit 60, pk_mul, nI_add]
      have g1 : ∀ {α : Type} (z : Option α), x_g (nI v) 100 z = z := fun z => x_gI (by omega) (by decide)
      have g2 : ∀ {α : Type} (z : Option α), x_g (nI (v * 60 + e)) 6000 z = z := fun z => x_gI (by omega) (by decide)
      have c1 : (nI v).toNatClampNeg = v := nI_clamp (by omega)
      have c2 : (nI (v * 60 + e)).toNatClampNeg = v * 60 + e := nI_clamp (by omega)
      obtain ⟨f1, f2⟩ := hf v (by omega)
      rw [if_neg (by rw [i_le (by omega) (by omega)]; exact h)]
      simp only [hpl, g1, g2, c1, c2, f1, p_bit, bind_some, nI_1]
      have step : ∀ (st1 sv1 en1 ev1 : Nat → Int64), (∀ p, st1 p = if p = v * 60 + e then (if 0 < f v then st p ||| bI i else st p) else st p) → (∀ p, sv1 p = if p = v * 60 + e then (if f v = 2 then sv p ||| bI i else sv p) else sv p) → (∀ A, en1 A = if A = v then (if 0 < f v then en A ||| bI e else en A) else en A) → (∀ A, ev1 A = if A = v then (if f v = 2 then ev A ||| bI e else ev A) else ev A) →
          ∃ w st' sv' en' ev', f_Chart_keepFound_L2 n (nI i) (nI e) (nI so) C_found k (nI (v + 1)) st1 sv1 en1 ev1 = some (w, st', sv', en', ev') ∧
            (∀ A, v ≤ A → A < so → st' (A * 60 + e) = (if 0 < f A then st (A * 60 + e) ||| bI i else st (A * 60 + e)) ∧ sv' (A * 60 + e) = (if f A = 2 then sv (A * 60 + e) ||| bI i else sv (A * 60 + e)) ∧ en' A = (if 0 < f A then en A ||| bI e else en A) ∧ ev' A = (if f A = 2 then ev A ||| bI e else ev A)) ∧
            (∀ p, (∀ A, v ≤ A → A < so → p ≠ A * 60 + e) → st' p = st p ∧ sv' p = sv p) ∧ (∀ A, A < v → en' A = en A ∧ ev' A = ev A) := by
        intro st1 sv1 en1 ev1 hst hsv hen hev
        obtain ⟨w, st', sv', en', ev', r1, r2, r3, r4⟩ := ih (v + 1) st1 sv1 en1 ev1 (by omega) (by omega)
        refine ⟨w, st', sv', en', ev', r1, fun A h1 h2 => ?_, fun p hp => ?_, fun A hA => ?_⟩
        · by_cases z : A = v
          · obtain ⟨a1, a2⟩ := r3 (A * 60 + e) (fun B b1 b2 => by omega)
            obtain ⟨a3, a4⟩ := r4 A (by omega)
            rw [a1, a2, a3, a4, hst, hsv, hen, hev, z, if_pos rfl, if_pos rfl, if_pos rfl, if_pos rfl]
            exact ⟨rfl, rfl, rfl, rfl⟩
          · obtain ⟨a1, a2, a3, a4⟩ := r2 A (by omega) h2
            have ne : ¬ A * 60 + e = v * 60 + e := by omega
            rw [a1, a2, a3, a4, hst, hsv, hen, hev, if_neg ne, if_neg ne, if_neg z, if_neg z]
            exact ⟨rfl, rfl, rfl, rfl⟩
        · obtain ⟨a1, a2⟩ := r3 p (fun B b1 b2 => hp B (by omega) b2)
          have := hp v (Nat.le_refl v) (by omega)
          rw [a1, a2, hst, hsv, if_neg this, if_neg this]
          exact ⟨rfl, rfl⟩
        · obtain ⟨a1, a2⟩ := r4 A (by omega)
          have ne : ¬ A = v := by omega
          rw [a1, a2, hen, hev, if_neg ne, if_neg ne]
          exact ⟨rfl, rfl⟩
      have up : ∀ (a : Nat → Int64) (q : Nat) (x : Int64) (p : Nat), vp_updL a q (a q ||| x) p = if p = q then a p ||| x else a p := fun a q x p => by
        by_cases z : p = q
        · rw [z, pk_uLs, if_pos rfl]
        · rw [pk_uLn z, if_neg z]
      have same : ∀ (a : Nat → Int64) (q p : Nat), a p = if p = q then a p else a p := fun a q p => by split <;> rfl
      have : f v = 0 ∨ f v = 1 ∨ f v = 2 := by omega
      rcases this with z | z | z
      · rw [if_pos (by rw [z]; decide), if_neg (by rw [z]; decide)]
        refine step st sv en ev (fun p => ?_) (fun p => ?_) (fun A => ?_) (fun A => ?_)
        · rw [z, if_neg (show ¬ 0 < 0 by omega)]; exact same _ _ _
        · rw [z, if_neg (show ¬ 0 = 2 by omega)]; exact same _ _ _
        · rw [z, if_neg (show ¬ 0 < 0 by omega)]; exact same _ _ _
        · rw [z, if_neg (show ¬ 0 = 2 by omega)]; exact same _ _ _
      · rw [if_neg (by rw [z]; decide), if_neg (by rw [z]; decide)]
        refine step _ sv _ ev (fun p => ?_) (fun p => ?_) (fun A => ?_) (fun A => ?_)
        · rw [up, z, if_pos (show 0 < 1 by omega)]
        · rw [z, if_neg (show ¬ 1 = 2 by omega)]; exact same _ _ _
        · rw [up, z, if_pos (show 0 < 1 by omega)]
        · rw [z, if_neg (show ¬ 1 = 2 by omega)]; exact same _ _ _
      · rw [if_neg (by rw [z]; decide), if_pos (by rw [z]; decide)]
        refine step _ _ _ _ (fun p => ?_) (fun p => ?_) (fun A => ?_) (fun A => ?_)
        · rw [up, z, if_pos (show 0 < 2 by omega)]
        · rw [up, z, if_pos rfl]
        · rw [up, z, if_pos (show 0 < 2 by omega)]
        · rw [up, z, if_pos rfl]
theorem p_forgetL13 {N : Nat} (hN : N ≤ 6000) : ∀ (k v : Nat) (st sv : Nat → Int64), v ≤ N → N - v < k → ∃ w st' sv', f_Chart_forgetStretches_L13 n (nI N) k (nI v) st sv = some (w, st', sv') ∧ (∀ p, v ≤ p → p < N → st' p = 0 ∧ sv' p = 0) ∧ (∀ p, p < v → st' p = st p ∧ sv' p = sv p) := by
  intro k
  induction k with
  | zero => intro v st sv _ h; exact absurd h (Nat.not_lt_zero _)
  | succ k ih =>
    intro v st sv hv hk
    rw [f_Chart_forgetStretches_L13]
    by_cases h : N ≤ v
    · rw [if_pos (by rw [i_le (by omega) (by omega)]; exact h)]
      exact ⟨_, _, _, rfl, fun p h1 h2 => by omega, fun _ _ => ⟨rfl, rfl⟩⟩
    · rw [if_neg (by rw [i_le (by omega) (by omega)]; exact h), x_gI (by omega) (by decide), x_gI (by omega) (by decide), nI_clamp (by omega), nI_1]
      obtain ⟨w, st', sv', r1, r2, r3⟩ := ih (v + 1) (vp_updL st v 0) (vp_updL sv v 0) (by omega) (by omega)
      refine ⟨w, st', sv', r1, fun p h1 h2 => ?_, fun p hp => ?_⟩
      · by_cases z : p = v
        · obtain ⟨a1, a2⟩ := r3 p (by omega)
          rw [a1, a2, z, pk_uLs, pk_uLs]; exact ⟨rfl, rfl⟩
        · exact r2 p (by omega) h2
      · obtain ⟨a1, a2⟩ := r3 p (by omega)
        rw [a1, a2, pk_uLn (by omega), pk_uLn (by omega)]; exact ⟨rfl, rfl⟩
theorem p_forgetL2 (hso : so ≤ 100) : ∀ (k v : Nat) (st sv : Nat → Int64), v ≤ so → so - v < k → ∃ w st' sv', f_Chart_forgetStart_L2 n (nI so) k (nI v) st sv = some (w, st', sv') ∧ (∀ p, v ≤ p → p < so → st' p = 0 ∧ sv' p = 0) ∧ (∀ p, p < v → st' p = st p ∧ sv' p = sv p) := by
  intro k
  induction k with
  | zero => intro v st sv _ h; exact absurd h (Nat.not_lt_zero _)
  | succ k ih =>
    intro v st sv hv hk
    rw [f_Chart_forgetStart_L2]
    unfold f_Symbols_sorts
    rw [bind_some]
    by_cases h : so ≤ v
    · rw [if_pos (by rw [i_le (by omega) (by omega)]; exact h)]
      exact ⟨_, _, _, rfl, fun p h1 h2 => by omega, fun _ _ => ⟨rfl, rfl⟩⟩
    · rw [if_neg (by rw [i_le (by omega) (by omega)]; exact h), x_gI (by omega) (by decide), x_gI (by omega) (by decide), nI_clamp (by omega), nI_1]
      obtain ⟨w, st', sv', r1, r2, r3⟩ := ih (v + 1) (vp_updL st v 0) (vp_updL sv v 0) (by omega) (by omega)
      refine ⟨w, st', sv', r1, fun p h1 h2 => ?_, fun p hp => ?_⟩
      · by_cases z : p = v
        · obtain ⟨a1, a2⟩ := r3 p (by omega)
          rw [a1, a2, z, pk_uLs, pk_uLs]; exact ⟨rfl, rfl⟩
        · exact r2 p (by omega) h2
      · obtain ⟨a1, a2⟩ := r3 p (by omega)
        rw [a1, a2, pk_uLn (by omega), pk_uLn (by omega)]; exact ⟨rfl, rfl⟩
theorem p_forgetL47 {N : Nat} (hN : N ≤ 30000) : ∀ (k v : Nat) (st sv : Nat → Int64), v ≤ N → N - v < k → ∃ w st' sv', f_Chart_forgetStart_L47 n (nI N) k (nI v) st sv = some (w, st', sv') ∧ (∀ p, v ≤ p → p < N → st' p = 0 ∧ sv' p = 0) ∧ (∀ p, p < v → st' p = st p ∧ sv' p = sv p) := by
  intro k
  induction k with
  | zero => intro v st sv _ h; exact absurd h (Nat.not_lt_zero _)
  | succ k ih =>
    intro v st sv hv hk
    rw [f_Chart_forgetStart_L47]
    by_cases h : N ≤ v
    · rw [if_pos (by rw [i_le (by omega) (by omega)]; exact h)]
      exact ⟨_, _, _, rfl, fun p h1 h2 => by omega, fun _ _ => ⟨rfl, rfl⟩⟩
    · rw [if_neg (by rw [i_le (by omega) (by omega)]; exact h), x_gI (by omega) (by decide), x_gI (by omega) (by decide), nI_clamp (by omega), nI_1]
      obtain ⟨w, st', sv', r1, r2, r3⟩ := ih (v + 1) (vp_updL st v 0) (vp_updL sv v 0) (by omega) (by omega)
      refine ⟨w, st', sv', r1, fun p h1 h2 => ?_, fun p hp => ?_⟩
      · by_cases z : p = v
        · obtain ⟨a1, a2⟩ := r3 p (by omega)
          rw [a1, a2, z, pk_uLs, pk_uLs]; exact ⟨rfl, rfl⟩
        · exact r2 p (by omega) h2
      · obtain ⟨a1, a2⟩ := r3 p (by omega)
        rw [a1, a2, pk_uLn (by omega), pk_uLn (by omega)]; exact ⟨rfl, rfl⟩
end KF
