/-! The grammar that the model is, and what the class's chart functions read of it -/
def gvt (ty rk : Nat → Option Nat) (s : Nat) : Option Nat := (ty s).bind rk
def grs (rk : Nat → Option Nat) (rs : Nat → Nat) (r : Nat) : Nat := (rk (rs r)).getD 0
def grl (fi : Nat → Nat) (r : Nat) : Nat := fi (r + 1) - fi r
def gra (fi al : Nat → Nat) (r p : Nat) : Nat := al (fi r + p)
theorem gvt_lt {sz so : Nat} {ty rk : Nat → Option Nat} (hm : m_S sz so ty rk) {s k : Nat} (h : gvt ty rk s = some k) : k < so := by
  unfold gvt at h
  cases ht : ty s with
  | none => rw [ht] at h; cases h
  | some t => rw [ht] at h; exact (hm.2.2.2.1 t k h).2.1
theorem gvt_none {sz so : Nat} {ty rk : Nat → Option Nat} (hm : m_S sz so ty rk) {s : Nat} (hs : s < sz) : gvt ty rk s = none ↔ ty s = none := by
  unfold gvt
  constructor
  · intro h
    cases ht : ty s with
    | none => rfl
    | some t =>
      obtain ⟨-, -, k, hk⟩ := hm.2.2.1 s hs t ht
      rw [ht] at h
      have h : rk t = none := h
      rw [hk] at h
      cases h
  · intro h; rw [h]; rfl
section CH
variable {n sz so : Nat} {ty rk : Nat → Option Nat} {S_size S_sorts : Int32} {S_types S_ranks S_typeRanks : Nat → Int32} {ln : Nat} {rw_ : Nat → Nat} {W_length : Int32} {W_row : Nat → Int32} {C_starts C_severalStarts C_ends C_severalEnds : Nat → Int64}
theorem p_trk (hm : m_S sz so ty rk) (ha : a_S sz so ty rk S_size S_sorts S_types S_ranks S_typeRanks) {s : Nat} (hs : s < sz) : f_Symbols_typeRankOf n S_size S_typeRanks (nI s) = some (oI (gvt ty rk s)) := p_typeRankOf hm ha hs
theorem p_placeOf {k e : Nat} (hk : k < 100) (he : e < 60) : f_Chart_placeOf n (nI k) (nI e) = some (nI (k * 60 + e)) := by
  unfold f_Chart_placeOf
  rw [p_isRank hk, bind_some, if_neg (show ¬ (1 : Int32) = 0 by decide), if_neg (nI_pos (by omega)), if_pos (by rw [i_lit, i_lt (by decide) (by omega)]; exact he), i_lit 60, pk_mul, nI_add]
theorem p_placeOf_m1 {a : Int32} : f_Chart_placeOf n (-1) a = some (-1) := by
  unfold f_Chart_placeOf
  rw [p_isRank_m1, bind_some, if_pos rfl]
theorem p_rowAt (hW : m_W sz ln rw_) (ha : a_W ln rw_ W_length W_row) {i : Nat} (hi : i < ln) : f_Row_symbolAt n W_length W_row (nI i) = some (nI (rw_ i)) := by
  have h59 := hW.1
  unfold f_Row_symbolAt
  rw [if_neg (nI_pos (by omega)), ha.1, if_neg (by rw [i_le (by omega) (by omega)]; omega), x_gI (by omega) (by decide), nI_clamp (by omega), ha.2 i hi]
theorem p_rowAt_out (hW : m_W sz ln rw_) (ha : a_W ln rw_ W_length W_row) {i : Nat} (hi : ln ≤ i) (hi2 : i < 2 ^ 31) : f_Row_symbolAt n W_length W_row (nI i) = some (-1) := by
  have h59 := hW.1
  unfold f_Row_symbolAt
  rw [if_neg (nI_pos hi2), ha.1, if_pos (by rw [i_le (by omega) (by omega)]; exact hi)]
/-- from where a symbol may stand up to e: the class's set -/
def c_st (vt : Nat → Option Nat) (x : Nat → Nat) (ln : Nat) (C_starts : Nat → Int64) (s e : Nat) : Int64 := match vt s with
  | none => if 0 < e ∧ e ≤ ln ∧ x (e - 1) = s then bI (e - 1) else 0
  | some k => C_starts (k * 60 + e)
def c_sv (vt : Nat → Option Nat) (C_severalStarts : Nat → Int64) (s e : Nat) : Int64 := match vt s with
  | none => 0
  | some k => C_severalStarts (k * 60 + e)
theorem p_startsOf (hm : m_S sz so ty rk) (ha : a_S sz so ty rk S_size S_sorts S_types S_ranks S_typeRanks) (hW : m_W sz ln rw_) (hw : a_W ln rw_ W_length W_row) {s e : Nat} (hs : s < sz) (he : e < 60) :
    f_Chart_startsOf n S_size S_typeRanks W_length W_row C_starts (nI s) (nI e) = some (c_st (gvt ty rk) rw_ ln C_starts s e) := by
  have hsz := hm.1
  have hso := hm.2.1
  unfold f_Chart_startsOf
  rw [p_trk hm ha hs, bind_some]
  unfold c_st
  cases hg : gvt ty rk s with
  | none =>
    rw [oI_none, if_pos rfl]
    by_cases h0 : e = 0
    · rw [if_pos (by rw [h0]; decide)]
      show _ = some (if 0 < e ∧ e ≤ ln ∧ rw_ (e - 1) = s then bI (e - 1) else 0)
      rw [if_neg (by omega)]
    · rw [if_neg (by rw [i_le0 (by omega)]; exact h0)]
      have e1 : nI e - (1 : Int32) = nI (e - 1) := pk_sub (show 1 ≤ e by omega)
      rw [e1]
      show _ = some (if 0 < e ∧ e ≤ ln ∧ rw_ (e - 1) = s then bI (e - 1) else 0)
      by_cases hl : e ≤ ln
      · rw [p_rowAt hW hw (show e - 1 < ln by omega), bind_some]
        have hx := hW.2 (e - 1) (by omega)
        by_cases hq : rw_ (e - 1) = s
        · rw [if_pos (by rw [hq]), p_bit, bind_some, if_pos ⟨by omega, hl, hq⟩]
        · rw [if_neg (by rw [i_eq (by omega) (by omega)]; exact hq), if_neg (fun z => hq z.2.2)]
      · rw [p_rowAt_out hW hw (show ln ≤ e - 1 by omega) (by omega), bind_some, if_neg (by rw [i_m1' (by omega)]; exact id), if_neg (fun z => hl z.2.1)]
  | some k =>
    have hk := gvt_lt hm hg
    rw [oI_some, if_neg (by rw [i_m1 (by omega)]; exact id), p_placeOf (by omega) he, bind_some, if_neg (by rw [i_m1 (by omega)]; exact id), x_gI (by omega) (by decide), nI_clamp (by omega)]
theorem p_severalStartsOf (hm : m_S sz so ty rk) (ha : a_S sz so ty rk S_size S_sorts S_types S_ranks S_typeRanks) {s e : Nat} (hs : s < sz) (he : e < 60) :
    f_Chart_severalStartsOf n S_size S_typeRanks C_severalStarts (nI s) (nI e) = some (c_sv (gvt ty rk) C_severalStarts s e) := by
  have hsz := hm.1
  have hso := hm.2.1
  unfold f_Chart_severalStartsOf
  rw [p_trk hm ha hs, bind_some]
  unfold c_sv
  cases hg : gvt ty rk s with
  | none => rw [oI_none, p_placeOf_m1, bind_some, if_pos rfl]
  | some k =>
    have hk := gvt_lt hm hg
    rw [oI_some, p_placeOf (by omega) he, bind_some, if_neg (by rw [i_m1 (by omega)]; exact id), x_gI (by omega) (by decide), nI_clamp (by omega)]
theorem p_waysBetween (hm : m_S sz so ty rk) (ha : a_S sz so ty rk S_size S_sorts S_types S_ranks S_typeRanks) (hW : m_W sz ln rw_) (hw : a_W ln rw_ W_length W_row) {s e : Nat} (hs : s < sz) (he : e < 60) (p q : Int64) :
    f_Chart_waysBetween n S_size S_typeRanks W_length W_row C_starts C_severalStarts p q (nI s) (nI e) = some (nI (wb p q (c_st (gvt ty rk) rw_ ln C_starts s e) (c_sv (gvt ty rk) C_severalStarts s e))) := by
  unfold f_Chart_waysBetween
  rw [p_startsOf hm ha hW hw hs he, p_severalStartsOf hm ha hs he, bind_some]
  unfold wb
  by_cases c0 : (p &&& c_st (gvt ty rk) rw_ ln C_starts s e) = 0
  · rw [if_pos (lc_0.mpr c0), if_pos c0]; rfl
  · rw [if_neg (fun h => c0 (lc_0.mp h)), if_neg c0]
    by_cases c1 : ((p &&& c_st (gvt ty rk) rw_ ln C_starts s e) &&& ((p &&& c_st (gvt ty rk) rw_ ln C_starts s e) - 1)) = 0
    · rw [if_pos (lc_0.mpr c1), if_pos c1, bind_some, if_neg (show ¬ (1 : Int32) = 0 by decide)]
      by_cases c2 : ((p &&& c_st (gvt ty rk) rw_ ln C_starts s e) &&& (q ||| c_sv (gvt ty rk) C_severalStarts s e)) = 0
      · rw [if_pos (lc_0.mpr c2), if_pos c2]; rfl
      · rw [if_neg (fun h => c2 (lc_0.mp h)), if_neg c2]; rfl
    · rw [if_neg (fun h => c1 (lc_0.mp h)), if_neg c1, bind_some, if_pos rfl]; rfl
def c_en (vt : Nat → Option Nat) (x : Nat → Nat) (C_ends : Nat → Int64) (s i : Nat) : Int64 := match vt s with
  | none => if x i = s then bI (i + 1) else 0
  | some k => C_ends k
def c_ev (vt : Nat → Option Nat) (C_severalEnds : Nat → Int64) (s : Nat) : Int64 := match vt s with
  | none => 0
  | some k => C_severalEnds k
theorem p_endsOf (hm : m_S sz so ty rk) (ha : a_S sz so ty rk S_size S_sorts S_types S_ranks S_typeRanks) (hW : m_W sz ln rw_) (hw : a_W ln rw_ W_length W_row) {s i : Nat} (hs : s < sz) (hi : i < ln) :
    f_Chart_endsOf n S_size S_typeRanks W_length W_row C_ends (nI s) (nI i) = some (c_en (gvt ty rk) rw_ C_ends s i) := by
  have hsz := hm.1
  have hso := hm.2.1
  unfold f_Chart_endsOf
  rw [p_trk hm ha hs, bind_some]
  unfold c_en
  cases hg : gvt ty rk s with
  | none =>
    have hx := hW.2 i hi
    rw [oI_none, p_isRank_m1, bind_some, if_pos rfl, p_rowAt hW hw hi, bind_some]
    show _ = some (if rw_ i = s then bI (i + 1) else 0)
    by_cases hq : rw_ i = s
    · rw [if_pos (by rw [hq]), nI_1, p_bit, bind_some, if_pos hq]
    · rw [if_neg (by rw [i_eq (by omega) (by omega)]; exact hq), if_neg hq]
  | some k =>
    have hk := gvt_lt hm hg
    rw [oI_some, p_isRank (by omega), bind_some, if_neg (show ¬ (1 : Int32) = 0 by decide), x_gI (by omega) (by decide), nI_clamp (by omega)]
theorem p_severalEndsOf (hm : m_S sz so ty rk) (ha : a_S sz so ty rk S_size S_sorts S_types S_ranks S_typeRanks) {s : Nat} (hs : s < sz) :
    f_Chart_severalEndsOf n S_size S_typeRanks C_severalEnds (nI s) = some (c_ev (gvt ty rk) C_severalEnds s) := by
  have hso := hm.2.1
  unfold f_Chart_severalEndsOf
  rw [p_trk hm ha hs, bind_some]
  unfold c_ev
  cases hg : gvt ty rk s with
  | none => rw [oI_none, p_isRank_m1, bind_some, if_pos rfl]
  | some k =>
    have hk := gvt_lt hm hg
    rw [oI_some, p_isRank (by omega), bind_some, if_neg (show ¬ (1 : Int32) = 0 by decide), x_gI (by omega) (by decide), nI_clamp (by omega)]
end CH
