/-! The order in which nodes are told: weights, places, the reference's pile -/
theorem sm_app : ∀ {a b : Nat} {f : Nat → Nat}, sm (a + b) f = sm a f + sm b (fun p => f (a + p))
  | a, 0, f => rfl
  | a, b + 1, f => by
    show sm (a + b) f + f (a + b) = sm a f + (sm b (fun p => f (a + p)) + f (a + b))
    rw [sm_app (a := a) (b := b)]
    omega
theorem sm_find : ∀ {N : Nat} {f : Nat → Nat} {x : Nat}, x < sm N f → ∃ i p, i < N ∧ p < f i ∧ x = sm i f + p
  | 0, _, _, h => absurd h (Nat.not_lt_zero _)
  | N + 1, f, x, h => by
    by_cases z : x < sm N f
    · obtain ⟨i, p, h1, h2, h3⟩ := sm_find z
      exact ⟨i, p, by omega, h2, h3⟩
    · have h' : x < sm N f + f N := h
      exact ⟨N, x - sm N f, by omega, by omega, by omega⟩
theorem sm_pre {N i : Nat} {f : Nat → Nat} (h : i ≤ N) : sm i f ≤ sm N f := by
  obtain ⟨d, rfl⟩ : ∃ d, N = i + d := ⟨N - i, by omega⟩
  rw [sm_app]
  exact Nat.le_add_right _ _
theorem inj_aux {n : Nat} {f : Nat → Nat} (h : ∀ x, x < n → ∃ j, j < n ∧ f j = x) {i j : Nat} (hi : i < n) (hj : j < n) (hij : i < j) (he : f i = f j) (hfi : f i < n) : False := by
  have s1 : sm n (fun x => sm n (fun k => if f k = x then 1 else 0)) ≤ n := by
    rw [sm_swap]
    have : ∀ k, k < n → sm n (fun x => if f k = x then 1 else 0) ≤ 1 := fun k _ => by
      by_cases z : f k < n
      · rw [sm_one (k := f k) z (fun x _ hx => if_neg (fun y => hx y.symm)), if_pos rfl]; exact Nat.le_refl _
      · rw [sm_0 (fun x hx => if_neg (by omega))]; omega
    refine Nat.le_trans (sm_le this) ?_
    have : ∀ n : Nat, sm n (fun _ => 1) = n := fun n => by
      induction n with
      | zero => rfl
      | succ n ih => show sm n _ + 1 = _; rw [ih]
    rw [this]
    exact Nat.le_refl _
  have s2 : sm n (fun _ => 1) < sm n (fun x => sm n (fun k => if f k = x then 1 else 0)) := by
    refine sm_lt (k := f i) (fun x hx => ?_) hfi ?_
    · obtain ⟨k, hk, hkx⟩ := h x hx
      have := sm_at (f := fun k => if f k = x then 1 else 0) hk
      have this' : (if f k = x then 1 else 0) ≤ sm n (fun k => if f k = x then 1 else 0) := this
      rw [if_pos hkx] at this'
      exact this'
    · have := sm_at2 (f := fun k => if f k = f i then 1 else 0) hi hj (by omega)
      have this' : (if f i = f i then 1 else 0) + (if f j = f i then 1 else 0) ≤ sm n (fun k => if f k = f i then 1 else 0) := this
      rw [if_pos rfl, if_pos he.symm] at this'
      show 1 < sm n (fun k => if f k = f i then 1 else 0)
      omega
  have s3 : ∀ n : Nat, sm n (fun _ => 1) = n := fun n => by
    induction n with
    | zero => rfl
    | succ n ih => show sm n _ + 1 = _; rw [ih]
  rw [s3] at s2
  omega
/-- a map from numbers below n that reaches each of them takes no two to the same -/
theorem inj_of_surj {n : Nat} {f : Nat → Nat} (h : ∀ x, x < n → ∃ j, j < n ∧ f j = x) {i j : Nat} (hi : i < n) (hj : j < n) (he : f i = f j) (hfi : f i < n) : i = j := by
  rcases Nat.lt_or_ge i j with q | q
  case inr => 
    rcases Nat.lt_or_ge j i with q2 | q2
    case inr => omega
    exact (inj_aux h hj hi q2 he.symm (he ▸ hfi)).elim
  exact (inj_aux h hi hj q he hfi).elim
def t_nf (np : Nat → Nat) (i : Nat) : Nat := 1 + sm i np
/-- nodes are numbered as they were appended -/
def t_bfs (N : Nat) (np : Nat → Nat) : Prop := N = 1 + sm N np ∧ ∀ i, i < N → i < t_nf np i
def t_wt (N : Nat) (np w tb : Nat → Nat) : Prop := (∀ i, i < N → w i = 1 + sm (np i) (fun p => w (t_nf np i + p))) ∧ tb 0 = 0 ∧ ∀ i, i < N → ∀ p, p < np i → tb (t_nf np i + p) = tb i + sm p (fun q => w (t_nf np i + q))
section WT
variable {N : Nat} {np w tb : Nat → Nat}
theorem t_nf_s (i : Nat) : t_nf np (i + 1) = t_nf np i + np i := by
  show 1 + (sm i np + np i) = 1 + sm i np + np i
  omega
theorem t_ch (hb : t_bfs N np) {i p : Nat} (hi : i < N) (hp : p < np i) : i < t_nf np i + p ∧ t_nf np i + p < N := by
  have h1 := hb.2 i hi
  have h2 : sm (i + 1) np ≤ sm N np := sm_pre (by omega)
  have h3 : sm (i + 1) np = sm i np + np i := rfl
  have h4 := hb.1
  unfold t_nf at *
  omega
theorem t_w_ex (hb : t_bfs N np) : ∃ w : Nat → Nat, ∀ i, i < N → w i = 1 + sm (np i) (fun p => w (t_nf np i + p)) := by
  have : ∀ d, d ≤ N → ∃ w : Nat → Nat, ∀ i, i < N → N - d ≤ i → w i = 1 + sm (np i) (fun p => w (t_nf np i + p)) := by
    intro d
    induction d with
    | zero => intro _; exact ⟨fun _ => 0, fun i h1 h2 => by omega⟩
    | succ d ih =>
      intro hd
      obtain ⟨w, hw⟩ := ih (by omega)
      refine ⟨m_up w (N - (d + 1)) (1 + sm (np (N - (d + 1))) (fun p => w (t_nf np (N - (d + 1)) + p))), fun i h1 h2 => ?_⟩
      have same : sm (np i) (fun p => m_up w (N - (d + 1)) (1 + sm (np (N - (d + 1))) (fun p => w (t_nf np (N - (d + 1)) + p))) (t_nf np i + p)) = sm (np i) (fun p => w (t_nf np i + p)) := sm_congr (fun p hp => by
        have := (t_ch hb h1 hp).1
        exact m_up_n (by omega))
      rw [same]
      by_cases z : i = N - (d + 1)
      · rw [← z, m_up_s]
      · rw [m_up_n z]
        exact hw i h1 (by omega)
  obtain ⟨w, hw⟩ := this N (Nat.le_refl _)
  exact ⟨w, fun i hi => hw i hi (by omega)⟩
theorem t_wt_ex (hb : t_bfs N np) : ∃ w tb, t_wt N np w tb := by
  obtain ⟨w, hw⟩ := t_w_ex hb
  have : ∀ k, k ≤ N → ∃ tb : Nat → Nat, tb 0 = 0 ∧ ∀ i, i < k → ∀ p, p < np i → tb (t_nf np i + p) = tb i + sm p (fun q => w (t_nf np i + q)) := by
    intro k
    induction k with
    | zero => intro _; exact ⟨fun _ => 0, rfl, fun i hi => absurd hi (Nat.not_lt_zero _)⟩
    | succ k ih =>
      intro hk
      obtain ⟨tb, h0, ht⟩ := ih (by omega)
      have hkf := hb.2 k (by omega)
      have low : ∀ j, j < t_nf np k → (if t_nf np k ≤ j then tb k + sm (j - t_nf np k) (fun q => w (t_nf np k + q)) else tb j) = tb j := fun j hj => if_neg (by omega)
      refine ⟨fun j => if t_nf np k ≤ j then tb k + sm (j - t_nf np k) (fun q => w (t_nf np k + q)) else tb j, ?_, fun i hi p hp => ?_⟩
      · show (if t_nf np k ≤ 0 then _ else tb 0) = 0
        rw [if_neg (by omega), h0]
      · show (if t_nf np k ≤ t_nf np i + p then tb k + sm (t_nf np i + p - t_nf np k) (fun q => w (t_nf np k + q)) else tb (t_nf np i + p)) = (if t_nf np k ≤ i then tb k + sm (i - t_nf np k) (fun q => w (t_nf np k + q)) else tb i) + sm p (fun q => w (t_nf np i + q))
        rw [low i (by omega)]
        by_cases z : i = k
        · subst z
          rw [if_pos (by omega), Nat.add_sub_cancel_left]
        · have h2 : t_nf np i + np i ≤ t_nf np k := by
            rw [← t_nf_s]
            exact Nat.add_le_add_left (sm_pre (by omega)) 1
          rw [if_neg (by omega)]
          exact ht i (by omega) p hp
  obtain ⟨tb, h0, ht⟩ := this N (Nat.le_refl _)
  exact ⟨w, tb, hw, h0, ht⟩
theorem t_w0 (hb : t_bfs N np) (h : t_wt N np w tb) : w 0 = N := by
  have : ∀ d, d ≤ N → sm (t_nf np (N - d)) w = sm (N - d) w + d := by
    intro d
    induction d with
    | zero =>
      intro _
      rw [Nat.sub_zero, Nat.add_zero]
      have : t_nf np N = N := hb.1.symm
      rw [this]
    | succ d ih =>
      intro hd
      have e := ih (by omega)
      have e1 : N - d = (N - (d + 1)) + 1 := by omega
      rw [e1, t_nf_s, sm_app] at e
      have e2 := h.1 (N - (d + 1)) (by omega)
      have e3 : sm (N - (d + 1) + 1) w = sm (N - (d + 1)) w + w (N - (d + 1)) := rfl
      omega
  have e := this N (Nat.le_refl _)
  rw [Nat.sub_self] at e
  have e1 : sm (t_nf np 0) w = 0 + w 0 := rfl
  have e2 : sm 0 w = 0 := rfl
  omega
theorem t_par (hb : t_bfs N np) {j : Nat} (h1 : 1 ≤ j) (hj : j < N) : ∃ i p, i < j ∧ p < np i ∧ j = t_nf np i + p := by
  have hN := hb.1
  obtain ⟨i, p, a1, a2, a3⟩ := sm_find (N := N) (f := np) (x := j - 1) (by omega)
  have hi := hb.2 i a1
  have e : j = t_nf np i + p := by
    unfold t_nf
    omega
  exact ⟨i, p, by omega, a2, e⟩
theorem t_wpos (h : t_wt N np w tb) {i : Nat} (hi : i < N) : 1 ≤ w i := by
  rw [h.1 i hi]
  omega
theorem t_room (hb : t_bfs N np) (h : t_wt N np w tb) : ∀ j, j < N → tb j + w j ≤ N := by
  intro j
  induction j using Nat.strongRecOn with
  | ind j ih =>
    intro hj
    by_cases z : j = 0
    · subst z
      rw [h.2.1, t_w0 hb h]
      omega
    · obtain ⟨i, p, a1, a2, a3⟩ := t_par hb (show 1 ≤ j by omega) hj
      have e1 := h.2.2 i (by omega) p a2
      have e2 := h.1 i (by omega)
      have e3 := ih i a1 (by omega)
      have e4 : sm (p + 1) (fun q => w (t_nf np i + q)) ≤ sm (np i) (fun q => w (t_nf np i + q)) := sm_pre (by omega)
      have e5 : sm (p + 1) (fun q => w (t_nf np i + q)) = sm p (fun q => w (t_nf np i + q)) + w (t_nf np i + p) := rfl
      rw [a3, e1]
      omega
end WT
section RT
variable {n N : Nat} {np w tb : Nat → Nat} {dp dc : Nat → Int32}
/-- the reference's pile: one node and what stands in it -/
theorem q_dfs (hN : N ≤ 11700) (hb : t_bfs N np) (h : t_wt N np w tb) (hdp : ∀ i, i < N → dp i = (if np i = 0 then -1 else nI (t_nf np i))) (hdc : ∀ i, i < N → dc i = nI (np i)) (hnp : ∀ i, i < N → np i ≤ 11700) :
    ∀ (d k : Nat), k < N → N - k ≤ d → ∀ (fuel top : Nat) (order pile next : Nat → Int32), 1 ≤ top → top ≤ k + 1 → pile (top - 1) = nI k → next (top - 1) = nI 0 →
      ∃ order' pile' next', f_Ref_tell_L21 n dp dc (fuel + (2 * w k - 1)) (nI top) (nI (tb k)) order pile next = f_Ref_tell_L21 n dp dc fuel (nI (top - 1)) (nI (tb k + w k)) order' pile' next' ∧ (∀ x, x < tb k → order' x = order x) ∧ (∀ x, tb k ≤ x → x < tb k + w k → ∃ j, j < N ∧ tb j + w j - 1 = x ∧ order' x = nI j) ∧ (∀ x, x < top - 1 → pile' x = pile x ∧ next' x = next x) := by
  intro d
  induction d with
  | zero => intro k h1 h2; omega
  | succ d ihd =>
    intro k hk hkd fuel top order pile next ht1 ht2 hpi hne
    have hwk := h.1 k hk
    have hroom := t_room hb h k hk
    -- the children from p on
    have inner : ∀ (q p : Nat), p + q = np k → ∀ (order pile next : Nat → Int32), pile (top - 1) = nI k → next (top - 1) = nI p →
        ∃ order' pile' next', f_Ref_tell_L21 n dp dc (fuel + (2 * (w k - 1 - sm p (fun q => w (t_nf np k + q))) + 1)) (nI top) (nI (tb k + sm p (fun q => w (t_nf np k + q)))) order pile next = f_Ref_tell_L21 n dp dc fuel (nI (top - 1)) (nI (tb k + w k)) order' pile' next' ∧ (∀ x, x < tb k + sm p (fun q => w (t_nf np k + q)) → order' x = order x) ∧ (∀ x, tb k + sm p (fun q => w (t_nf np k + q)) ≤ x → x < tb k + w k → ∃ j, j < N ∧ tb j + w j - 1 = x ∧ order' x = nI j) ∧ (∀ x, x < top - 1 → pile' x = pile x ∧ next' x = next x) := by
      intro q
      induction q with
      | zero =>
        intro p hpq order pile next hpi hne
        have ep : p = np k := by omega
        subst ep
        have e0 : w k - 1 - sm (np k) (fun q => w (t_nf np k + q)) = 0 := by omega
        rw [e0, Nat.mul_zero, Nat.zero_add, f_Ref_tell_L21, if_neg (by rw [i_le0 (by omega)]; omega), i_back ht1, x_gI (show top - 1 < 12000 by omega) (by decide), x_gI (show top - 1 < 12000 by omega) (by decide), nI_clamp (show top - 1 < 2 ^ 31 by omega), hpi, x_gI (show k < 12000 by omega) (by decide), nI_clamp (show k < 2 ^ 31 by omega), hdc k hk, hne, if_pos (by rw [i_le (by have := hnp k hk; omega) (by have := hnp k hk; omega)]; exact Nat.le_refl _), x_gI (show tb k + sm (np k) (fun q => w (t_nf np k + q)) < 12000 by omega) (by decide), nI_clamp (show tb k + sm (np k) (fun q => w (t_nf np k + q)) < 2 ^ 31 by omega), nI_1]
        have et : nI top + (-1 : Int32) = nI (top - 1) := by
          rw [← Int32.sub_eq_add_neg]
          exact i_back ht1
        rw [et, show tb k + sm (np k) (fun q => w (t_nf np k + q)) + 1 = tb k + w k by omega]
        refine ⟨_, _, _, rfl, fun x hx => pk_un (by omega), fun x h1 h2 => ?_, fun x _ => ⟨rfl, rfl⟩⟩
        have ex : x = tb k + sm (np k) (fun q => w (t_nf np k + q)) := by omega
        rw [ex, pk_us]
        exact ⟨k, hk, by omega, rfl⟩
      | succ q ihq =>
        intro p hpq order pile next hpi hne
        have hp : p < np k := by omega
        obtain ⟨c1, c2⟩ := t_ch hb hk hp
        have hs1 : sm (p + 1) (fun q => w (t_nf np k + q)) = sm p (fun q => w (t_nf np k + q)) + w (t_nf np k + p) := rfl
        have hs2 : sm (p + 1) (fun q => w (t_nf np k + q)) ≤ sm (np k) (fun q => w (t_nf np k + q)) := sm_pre (by omega)
        have hwc := t_wpos h c2
        have htc := h.2.2 k hk p hp
        have ef : fuel + (2 * (w k - 1 - sm p (fun q => w (t_nf np k + q))) + 1) = ((fuel + (2 * (w k - 1 - sm (p + 1) (fun q => w (t_nf np k + q))) + 1)) + (2 * w (t_nf np k + p) - 1)) + 1 := by omega
        rw [ef, f_Ref_tell_L21, if_neg (by rw [i_le0 (by omega)]; omega), i_back ht1, x_gI (show top - 1 < 12000 by omega) (by decide), x_gI (show top - 1 < 12000 by omega) (by decide), nI_clamp (show top - 1 < 2 ^ 31 by omega), hpi, x_gI (show k < 12000 by omega) (by decide), nI_clamp (show k < 2 ^ 31 by omega), hdc k hk, hne, if_neg (by rw [i_le (by omega) (by have := hnp k hk; omega)]; omega), x_gI (show k < 12000 by omega) (by decide), x_gI (show top - 1 < 12000 by omega) (by decide), x_gI (show top < 12000 by omega) (by decide), x_gI (show top - 1 < 12000 by omega) (by decide), x_gI (show top - 1 < 12000 by omega) (by decide), x_gI (show top < 12000 by omega) (by decide), nI_clamp (show top < 2 ^ 31 by omega), hdp k hk, if_neg (by omega), i_add, nI_1, nI_1]
        rw [← htc]
        obtain ⟨o1, pi1, ne1, g1, g2, g3, g4⟩ := ihd (t_nf np k + p) c2 (by omega) (fuel + (2 * (w k - 1 - sm (p + 1) (fun q => w (t_nf np k + q))) + 1)) (top + 1) order (upd pile top (nI (t_nf np k + p))) (upd (upd next (top - 1) (nI (p + 1))) top 0) (by omega) (by omega) (by rw [Nat.add_sub_cancel, pk_us]) (by rw [Nat.add_sub_cancel, pk_us]; rfl)
        rw [Nat.add_sub_cancel] at g1 g4
        rw [g1]
        have em : tb (t_nf np k + p) + w (t_nf np k + p) = tb k + sm (p + 1) (fun q => w (t_nf np k + q)) := by omega
        rw [em] at g3 ⊢
        obtain ⟨o2, pi2, ne2, k1, k2, k3, k4⟩ := ihq (p + 1) (by omega) o1 pi1 ne1 (by rw [(g4 (top - 1) (by omega)).1, pk_un (by omega), hpi]) (by rw [(g4 (top - 1) (by omega)).2, pk_un (by omega), pk_us])
        refine ⟨o2, pi2, ne2, k1, fun x hx => ?_, fun x h1 h2 => ?_, fun x hx => ?_⟩
        · rw [k2 x (by omega), g2 x (by omega)]
        · by_cases z : x < tb k + sm (p + 1) (fun q => w (t_nf np k + q))
          · obtain ⟨j, j1, j2, j3⟩ := g3 x (by omega) z
            exact ⟨j, j1, j2, by rw [k2 x z, j3]⟩
          · exact k3 x (by omega) h2
        · obtain ⟨a1, a2⟩ := k4 x hx
          obtain ⟨b1, b2⟩ := g4 x (by omega)
          rw [a1, a2, b1, b2, pk_un (by omega), pk_un (by omega), pk_un (by omega)]
          exact ⟨rfl, rfl⟩
    have := inner (np k) 0 (by omega) order pile next hpi hne
    have e1 : sm 0 (fun q => w (t_nf np k + q)) = 0 := rfl
    rw [e1, Nat.add_zero, Nat.sub_zero] at this
    have e2 : 2 * (w k - 1) + 1 = 2 * w k - 1 := by omega
    rw [e2] at this
    exact this
theorem q_tell (hn : 40000 ≤ n) (hN : N ≤ 11700) (h0 : 0 < N) (hb : t_bfs N np) (h : t_wt N np w tb) (hdp : ∀ i, i < N → dp i = (if np i = 0 then -1 else nI (t_nf np i))) (hdc : ∀ i, i < N → dc i = nI (np i)) (order pile next : Nat → Int32) :
    ∃ order' pile' next', f_Ref_tell n dp dc order pile next = some (order', pile', next') ∧ ∀ x, x < N → ∃ j, j < N ∧ tb j + w j - 1 = x ∧ order' x = nI j := by
  have hnp : ∀ i, i < N → np i ≤ 11700 := fun i hi => by
    have h1 : sm (i + 1) np ≤ sm N np := sm_pre (by omega)
    have h2 : sm (i + 1) np = sm i np + np i := rfl
    have h3 := hb.1
    omega
  have hw0 := t_w0 hb h
  obtain ⟨o1, pi1, ne1, g1, -, g3, -⟩ := q_dfs (n := n) hN hb h hdp hdc hnp N 0 h0 (by omega) (n - (2 * N - 1)) 1 order (upd pile 0 0) (upd next 0 0) (Nat.le_refl _) (Nat.le_refl _) rfl rfl
  rw [hw0, show n - (2 * N - 1) + (2 * N - 1) = n by omega, h.2.1, Nat.zero_add] at g1
  have g1' : f_Ref_tell_L21 n dp dc n (0 + 1) 0 order (upd pile 0 0) (upd next 0 0) = f_Ref_tell_L21 n dp dc (n - (2 * N - 1)) (nI (1 - 1)) (nI N) o1 pi1 ne1 := g1
  obtain ⟨k', hk'⟩ : ∃ k', n - (2 * N - 1) = k' + 1 := ⟨n - (2 * N - 1) - 1, by omega⟩
  refine ⟨o1, pi1, ne1, ?_, fun x hx => ?_⟩
  · unfold f_Ref_tell
    rw [x_gin (show vp_in 0 12000 from vp_in_nI (n := 0) (N := 12000) (by decide) (by decide)), x_gin (show vp_in 0 12000 from vp_in_nI (n := 0) (N := 12000) (by decide) (by decide))]
    show ((f_Ref_tell_L21 n dp dc n (0 + 1) 0 order (upd pile 0 0) (upd next 0 0)).bind _) = _
    rw [g1', hk', f_Ref_tell_L21, if_pos (by decide), bind_some]
  · exact g3 x (by rw [h.2.1]; omega) (by rw [h.2.1, hw0]; omega)
end RT
