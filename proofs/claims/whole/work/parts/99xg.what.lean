/-! BOOKS: the numbers of a CHANGE, both ways -/
section V
variable {s q r s0 : RS} {b : Nat → Nat} {e T j f st k : Nat} {tb : Nat → Int64} {nm : Nat → Nat} {B Bc : Nat → Nat}
theorem w_tot (s : RS) (x : Int64) : ∃ t, pX12_isWord s x = some t := by
  unfold pX12_isWord
  by_cases c1 : s.1 14 = (1 : Int32)
  · rw [if_pos c1]
    by_cases c2 : s.2.1 19 = x
    · rw [if_pos c2]; exact ⟨_, rfl⟩
    · rw [if_neg c2]; exact ⟨_, rfl⟩
  · rw [if_neg c1]; exact ⟨_, rfl⟩
theorem is_says (s : RS) : ∃ t, pX12_isSays s = some t := by
  obtain ⟨t, e1⟩ := w_tot s (lN (kw32 3))
  unfold pX12_isSays
  rw [sp_3, ob_s, e1, ob_s]; exact ⟨_, rfl⟩
theorem is_key (s : RS) : ∃ t, pX12_isKey s = some t := by
  obtain ⟨t, e1⟩ := w_tot s (lN (kw32 2))
  unfold pX12_isKey
  rw [sp_2, ob_s, e1, ob_s]; exact ⟨_, rfl⟩
theorem j99_bad (h : badR f s) (hk : k < 16) (v3 : Int32) : ∃ s', X12_readWhat_j99 (nI k) v3 s = some (v3, s') ∧ badR f s' ∧ s'.1 13 = s.1 13 ∧ rsB s s' := by
  obtain ⟨t, e1⟩ := is_says s
  unfold X12_readWhat_j99
  rw [e1, ob_s, must_bad h, ob_s, count_bad h, ob_s, show (1474 : Int32) = nI 1474 from rfl, nI_add, g_inT (by omega) (by omega), nI_clamp (by omega), thn_eq]
  exact ⟨uA s 4 (upd (s.2.2.1 4) (1474 + k) (nI 0)), rfl, h, rfl, rsB_4 (x := 1474 + k) _ _ (by omega)⟩
theorem j90_bad (h : badR f s) (hk : k < 16) (v1 v3 : Int32) : ∃ s', X12_readWhat_j90 v1 (nI k) v3 s = some (v3, s') ∧ badR f s' ∧ s'.1 13 = s.1 13 ∧ rsB s s' := by
  unfold X12_readWhat_j90
  by_cases c0 : v1 = 0
  · rw [if_pos c0]; exact j99_bad h hk v3
  · rw [if_neg c0]
    by_cases c2 : v1 = (2 : Int32)
    · rw [if_pos c2]; exact j99_bad h hk v3
    · rw [if_neg c2]; exact ⟨s, rfl, h, rfl, rsB_rf s⟩
theorem j64_bad (h : badR f s) (hk : k < 16) (v1 v3 : Int32) : ∃ s', X12_readWhat_j64 v1 (nI k) v3 s = some (v3, s') ∧ badR f s' ∧ s'.1 13 = s.1 13 ∧ rsB s s' := by
  obtain ⟨t, e1⟩ := is_key s
  unfold X12_readWhat_j64
  rw [e1, ob_s, must_bad h, ob_s, count_bad h, ob_s, show (1458 : Int32) = nI 1458 from rfl, nI_add, g_inT (by omega) (by omega), nI_clamp (by omega), thn_eq]
  have h2 : badR f (uA s 4 (upd (s.2.2.1 4) (1458 + k) (nI 0))) := h
  obtain ⟨s', y1, y2, y3, y4⟩ := j90_bad h2 hk v1 v3
  exact ⟨s', y1, y2, y3, rsB_tr (rsB_4 (x := 1458 + k) _ _ (by omega)) y4⟩
theorem j55_bad (h : badR f s) (hk : k < 16) (v1 v3 : Int32) : ∃ s', X12_readWhat_j55 v1 (nI k) v3 s = some (v3, s') ∧ badR f s' ∧ s'.1 13 = s.1 13 ∧ rsB s s' := by
  unfold X12_readWhat_j55
  by_cases c0 : v1 = 0
  · rw [if_pos c0]; exact j64_bad h hk v1 v3
  · rw [if_neg c0]
    by_cases c3 : v1 = (3 : Int32)
    · rw [if_pos c3]; exact j64_bad h hk v1 v3
    · rw [if_neg c3]; exact j90_bad h hk v1 v3
/-- a word and a number behind it -/
def xnB (wd : Nat) (m k : Nat) (q r : RS) : Option (Bool × RS × RS) := (pX8_pass q (nI wd)).bind fun x1 => if x1.1 = true then (pX8_passNumber x1.2 (0 : Int32) (9999 : Int32)).bind fun x2 => g_in (nI k) 16 (thn (uA r m (upd (r.2.2.1 m) (nI k).toNatClampNeg x2.1)) fun s_3 => g_in (nI k) 16 (if (s_3.2.2.1 m (nI k).toNatClampNeg) = (-1 : Int32) then some (false, x2.2, s_3) else some (true, x2.2, s_3))) else some (false, x1.2, r)
theorem p_number (h : prR tb b e T j s q) (h12 : s.1 12 = nI 0) {wd : Nat} (hd : wd ≤ 32) (m : Nat) (hk : k < 16) : (∃ v x2 s', v ≤ 9999 ∧ pX12_must s (decide (kJ tb b e j = wd)) = some x2 ∧ pX12_count x2 (0 : Int32) (9999 : Int32) = some (nI v, s') ∧ xnB wd m k q r = some (true, uI q 10 (nI (j + 1 + 1)), uA r m (upd (r.2.2.1 m) k (nI v))) ∧ prR tb b e T (j + 1 + 1) s' (uI q 10 (nI (j + 1 + 1))) ∧ s'.1 12 = nI 0 ∧ nxS s s') ∨ ∃ f st j' x2 r', badR f x2 ∧ x2.1 13 = nI st ∧ (pX12_must s (decide (kJ tb b e j = wd)) = some x2 ∧ pX12_count x2 (0 : Int32) (9999 : Int32) = some (nI 0, x2) ∨ ∃ x1, pX12_must s (decide (kJ tb b e j = wd)) = some x1 ∧ pX12_count x1 (0 : Int32) (9999 : Int32) = some (nI 0, x2)) ∧ rsB s x2 ∧ xnB wd m k q r = some (false, fltX f st (uI q 10 (nI j')), r') := by
  have q10 : uI q 10 (nI j) = q := by rw [← h.2.2.2.2.1, uI_self]
  unfold xnB
  simp (disch := omega) only [g_inT, nI_clamp, thn_eq]
  rcases must_t h h12 hd with ⟨t1, f1, f2, f3, f4⟩ | ⟨f, f1, f2, f3, f4⟩
  · have n1 := nx_12 f4 h12
    rw [f2, ob_s, if_pos rfl, show (0 : Int32) = nI 0 from rfl, show (9999 : Int32) = nI 9999 from rfl, f1]
    rcases p_count f3 n1 (lo := 0) (hi := 9999) (by omega) (by omega) with ⟨v, t2, v1, v2, g1, g2, g3, g4⟩ | ⟨f, g1, g2, g3, g4⟩
    · left
      rw [uI_uI] at g2 g3
      rw [g2, ob_s, uA_at, upd_at, if_neg (show ¬ nI v = (-1 : Int32) by rw [show (-1 : Int32) = m1I from rfl, m1_ne (by omega)]; exact id)]
      exact ⟨v, t1, t2, v2, rfl, g1, rfl, g3, nx_12 g4 n1, nxS_tr f4 g4⟩
    · right
      rw [g4, ob_s, uA_at, upd_at, if_pos (show m1I = (-1 : Int32) from rfl)]
      exact ⟨f, tsq b e (j + 1), j + 1, fltR f (tsq b e (j + 1)) t1, _, ⟨rfl, g1, g2⟩, rfl, Or.inr ⟨t1, rfl, g3⟩, rsB_tr (rsB_nx f4) (rsB_flt _), rfl⟩
  · right
    have hb : badR f (fltR f (tsq b e j) s) := ⟨rfl, f1, f2⟩
    rw [f4, ob_s, if_neg Bool.false_ne_true, f3]
    exact ⟨f, tsq b e j, j, fltR f (tsq b e j) s, r, hb, rfl, Or.inl ⟨rfl, count_bad hb _ _⟩, rsB_flt _, by rw [q10]⟩
/-- KEY and its number -/
theorem p_key (h : prR tb b e T j s q) (h12 : s.1 12 = nI 0) (hk : k < 16) (v1 v3 : Int32) : (∃ v s', v ≤ 9999 ∧ X12_readWhat_j64 v1 (nI k) v3 s = X12_readWhat_j90 v1 (nI k) v3 (uA s' 4 (upd (s'.2.2.1 4) (1440 + (18 + k)) (nI v))) ∧ xnB 2 5 k q r = some (true, uI q 10 (nI (j + 1 + 1)), uA r 5 (upd (r.2.2.1 5) k (nI v))) ∧ prR tb b e T (j + 1 + 1) s' (uI q 10 (nI (j + 1 + 1))) ∧ s'.1 12 = nI 0 ∧ nxS s s') ∨ botB s q (X12_readWhat_j64 v1 (nI k) v3 s) (xnB 2 5 k q r) := by
  have ek : pX12_isKey s = some (decide (kJ tb b e j = 2)) := r_isKey h.1 h.2.2.1
  have el : ∀ x1 v s', pX12_must s (decide (kJ tb b e j = 2)) = some x1 → pX12_count x1 (0 : Int32) (9999 : Int32) = some (v, s') → X12_readWhat_j64 v1 (nI k) v3 s = X12_readWhat_j90 v1 (nI k) v3 (uA s' 4 (upd (s'.2.2.1 4) (1440 + (18 + k)) v)) := fun x1 v s' h1 h2 => by
    unfold X12_readWhat_j64
    rw [ek, ob_s, h1, ob_s, h2, ob_s, show (1458 : Int32) = nI 1458 from rfl, nI_add, g_inT (by omega) (by omega), nI_clamp (by omega), thn_eq, show 1458 + k = 1440 + (18 + k) by omega]
  rcases p_number (r := r) h h12 (wd := 2) (by omega) 5 hk with ⟨v, x2, s', g1, g2, g3, g4, g5, g6, g7⟩ | ⟨f, st, j', x2, r', g1, g2, g3, g4, g5⟩
  · left
    exact ⟨v, s', g1, el x2 _ _ g2 g3, g4, g5, g6, g7⟩
  · right
    have hb : badR f (uA x2 4 (upd (x2.2.2.1 4) (1440 + (18 + k)) (nI 0))) := g1
    have e9 : X12_readWhat_j64 v1 (nI k) v3 s = X12_readWhat_j90 v1 (nI k) v3 (uA x2 4 (upd (x2.2.2.1 4) (1440 + (18 + k)) (nI 0))) := by
      rcases g3 with ⟨m1, m2⟩ | ⟨x1, m1, m2⟩
      · exact el x2 _ _ m1 m2
      · exact el x1 _ _ m1 m2
    obtain ⟨s', y1, y2, y3, y4⟩ := j90_bad hb hk v1 v3
    exact ⟨f, st, j', v3, s', r', y2, y3.trans g2, e9.trans y1, rsB_tr (rsB_tr g4 (rsB_4 (x := 1440 + (18 + k)) _ _ (by omega))) y4, g5⟩
/-- SAYS and its number -/
theorem p_says (h : prR tb b e T j s q) (h12 : s.1 12 = nI 0) (hk : k < 16) (m : Nat) (v3 : Int32) : (∃ v s', v ≤ 9999 ∧ X12_readWhat_j99 (nI k) v3 s = some (v3, uA s' 4 (upd (s'.2.2.1 4) (1440 + (34 + k)) (nI v))) ∧ xnB 3 m k q r = some (true, uI q 10 (nI (j + 1 + 1)), uA r m (upd (r.2.2.1 m) k (nI v))) ∧ prR tb b e T (j + 1 + 1) s' (uI q 10 (nI (j + 1 + 1))) ∧ s'.1 12 = nI 0 ∧ nxS s s') ∨ botB s q (X12_readWhat_j99 (nI k) v3 s) (xnB 3 m k q r) := by
  have ek : pX12_isSays s = some (decide (kJ tb b e j = 3)) := r_isSays h.1 h.2.2.1
  have el : ∀ x1 v s', pX12_must s (decide (kJ tb b e j = 3)) = some x1 → pX12_count x1 (0 : Int32) (9999 : Int32) = some (v, s') → X12_readWhat_j99 (nI k) v3 s = some (v3, uA s' 4 (upd (s'.2.2.1 4) (1440 + (34 + k)) v)) := fun x1 v s' h1 h2 => by
    unfold X12_readWhat_j99
    rw [ek, ob_s, h1, ob_s, h2, ob_s, show (1474 : Int32) = nI 1474 from rfl, nI_add, g_inT (by omega) (by omega), nI_clamp (by omega), thn_eq, show 1474 + k = 1440 + (34 + k) by omega]
  rcases p_number (r := r) h h12 (wd := 3) (by omega) m hk with ⟨v, x2, s', g1, g2, g3, g4, g5, g6, g7⟩ | ⟨f, st, j', x2, r', g1, g2, g3, g4, g5⟩
  · left
    exact ⟨v, s', g1, el x2 _ _ g2 g3, g4, g5, g6, g7⟩
  · right
    have hb : badR f (uA x2 4 (upd (x2.2.2.1 4) (1440 + (34 + k)) (nI 0))) := g1
    have e9 : X12_readWhat_j99 (nI k) v3 s = some (v3, uA x2 4 (upd (x2.2.2.1 4) (1440 + (34 + k)) (nI 0))) := by
      rcases g3 with ⟨m1, m2⟩ | ⟨x1, m1, m2⟩
      · exact el x2 _ _ m1 m2
      · exact el x1 _ _ m1 m2
    exact ⟨f, st, j', v3, _, r', hb, g2, e9, rsB_tr g4 (rsB_4 (x := 1440 + (34 + k)) _ _ (by omega)), g5⟩
end V
