/-! QUESTIONS: class and reference answer alike -/
theorem wd_lt (a b : Int32) : (a.toInt64 < b.toInt64) = (a < b) := propext (by rw [Int64.lt_iff_toInt_lt, Int32.lt_iff_toInt_lt, Int32.toInt_toInt64, Int32.toInt_toInt64])
theorem wd_le (a b : Int32) : (a.toInt64 ≤ b.toInt64) = (a ≤ b) := propext (by rw [Int64.le_iff_toInt_le, Int32.le_iff_toInt_le, Int32.toInt_toInt64, Int32.toInt_toInt64])
theorem w0 : (0 : Int64) = (0 : Int32).toInt64 := by decide
theorem isIn_w (a b c : Int32) : pX12_isIn a.toInt64 b.toInt64 c.toInt64 = if a < b then some false else if c < a then some false else some true := by
  unfold pX12_isIn
  by_cases h : a < b
  · rw [if_pos h, if_pos (by rw [wd_lt]; exact h)]
  · rw [if_neg h, if_neg (by rw [wd_lt]; exact h)]
    by_cases h2 : c < a
    · rw [if_pos h2, if_pos (by rw [wd_lt]; exact h2)]
    · rw [if_neg h2, if_neg (by rw [wd_lt]; exact h2)]
def outI (a0 : Int32) (m : Nat) : Prop := a0 < 0 ∨ (¬ a0 < 0 ∧ nI m ≤ a0 ∧ nI m - 1 < a0)
theorem isInM (a0 : Int32) {m : Nat} (hm : m < 2 ^ 31) : (∃ t, t < m ∧ a0 = nI t ∧ pX12_isIn a0.toInt64 (0 : Int64) ((nI m - (1 : Int32)).toInt64) = some true ∧ ¬ a0 < 0 ∧ ¬ nI m - 1 < a0 ∧ ¬ nI m ≤ a0) ∨ (pX12_isIn a0.toInt64 (0 : Int64) ((nI m - (1 : Int32)).toInt64) = some false ∧ outI a0 m) := by
  rw [w0, isIn_w]
  rcases pk_ix a0 (n := m) (by omega) with h | h | ⟨t, h1, rfl⟩
  · exact Or.inr ⟨by rw [if_pos h], Or.inl h⟩
  · have e : (nI m - 1).toInt = (m : Int) - 1 := by
      cases h0 : m with
      | zero => decide
      | succ n => rw [nI_pred, nI_toInt (by omega)]; omega
    have h2 : nI m - 1 < a0 := by
      rw [Int32.lt_iff_toInt_lt, e]
      rw [Int32.le_iff_toInt_le, nI_toInt (by omega)] at h
      omega
    have h3 : ¬ a0 < 0 := by
      rw [Int32.le_iff_toInt_le, nI_toInt (by omega)] at h
      rw [Int32.lt_iff_toInt_lt]
      show ¬ a0.toInt < 0
      omega
    exact Or.inr ⟨by rw [if_neg h3, if_pos h2], Or.inr ⟨h3, h, h2⟩⟩
  · have g1 : ¬ nI t < 0 := nI_pos (by omega)
    have g2 : ¬ nI m - 1 < nI t := by
      rw [show (1 : Int32) = nI 1 from rfl, sbI (by omega)]
      exact nI_nlt (by omega) (by omega)
    exact Or.inl ⟨t, h1, rfl, by rw [if_neg g1, if_neg g2], g1, g2, nI_ge h1 (by omega)⟩
/-- the reference: what is seen, but for the STATUS, is as it was -/
def rsame (s s' : RS) : Prop := (s'.1 8 = s.1 8 ∧ s'.1 10 = s.1 10 ∧ s'.1 11 = s.1 11 ∧ s'.1 22 = s.1 22 ∧ s'.1 43 = s.1 43) ∧ (s'.2.1 2 = s.2.1 2 ∧ s'.2.1 3 = s.2.1 3) ∧ (s'.2.2.1 0 = s.2.2.1 0 ∧ s'.2.2.1 1 = s.2.2.1 1 ∧ s'.2.2.1 3 = s.2.2.1 3 ∧ s'.2.2.1 4 = s.2.2.1 4 ∧ s'.2.2.1 14 = s.2.2.1 14) ∧ s'.2.2.2 2 = s.2.2.2 2 ∧ s'.2.2.2 5 = s.2.2.2 5
theorem rs_rf (s : RS) : rsame s s := ⟨⟨rfl, rfl, rfl, rfl, rfl⟩, ⟨rfl, rfl⟩, ⟨rfl, rfl, rfl, rfl, rfl⟩, rfl, rfl⟩
theorem rs_tr {a b c : RS} (h : rsame a b) (k : rsame b c) : rsame a c := ⟨⟨k.1.1.trans h.1.1, k.1.2.1.trans h.1.2.1, k.1.2.2.1.trans h.1.2.2.1, k.1.2.2.2.1.trans h.1.2.2.2.1, k.1.2.2.2.2.trans h.1.2.2.2.2⟩, ⟨k.2.1.1.trans h.2.1.1, k.2.1.2.trans h.2.1.2⟩, ⟨k.2.2.1.1.trans h.2.2.1.1, k.2.2.1.2.1.trans h.2.2.1.2.1, k.2.2.1.2.2.1.trans h.2.2.1.2.2.1, k.2.2.1.2.2.2.1.trans h.2.2.1.2.2.2.1, k.2.2.1.2.2.2.2.trans h.2.2.1.2.2.2.2⟩, k.2.2.2.1.trans h.2.2.2.1, k.2.2.2.2.trans h.2.2.2.2⟩
theorem rs_uI {s s' : RS} (h : rsame s s') {k : Nat} (v : Int32) (hk : k ≠ 8 ∧ k ≠ 10 ∧ k ≠ 11 ∧ k ≠ 22 ∧ k ≠ 43) : rsame s (uI s' k v) :=
  rs_tr h ⟨⟨if_neg hk.1.symm, if_neg hk.2.1.symm, if_neg hk.2.2.1.symm, if_neg hk.2.2.2.1.symm, if_neg hk.2.2.2.2.symm⟩, ⟨rfl, rfl⟩, ⟨rfl, rfl, rfl, rfl, rfl⟩, rfl, rfl⟩
theorem rs_sx {s s' s2 : RS} (h : rsame s s') {n : Nat} (hx : sx n s' s2) (hn : n ≠ 0 ∧ n ≠ 1 ∧ n ≠ 3 ∧ n ≠ 4 ∧ n ≠ 14) : rsame s s2 :=
  rs_tr h ⟨⟨by rw [hx.1], by rw [hx.1], by rw [hx.1], by rw [hx.1], by rw [hx.1]⟩, ⟨by rw [hx.2.1], by rw [hx.2.1]⟩, ⟨hx.2.2.2 0 hn.1.symm, hx.2.2.2 1 hn.2.1.symm, hx.2.2.2 3 hn.2.2.1.symm, hx.2.2.2 4 hn.2.2.2.1.symm, hx.2.2.2 14 hn.2.2.2.2.symm⟩, by rw [hx.2.2.1], by rw [hx.2.2.1]⟩
theorem rq_2 (s : RS) (v w : Int32) : rsame s (uI (uI s 1 v) 0 w) := rs_uI (rs_uI (rs_rf s) v (by decide)) w (by decide)
theorem rq_3 (s : RS) (v w u : Int32) : rsame s (uI (uI (uI s 1 v) 0 w) 0 u) := rs_uI (rq_2 s v w) u (by decide)
/-- a question that changes nothing but the STATUS -/
def qq (s s0 : RS) (R X : Option (Int32 × RS)) : Prop := ∃ a s', R = some (a, s') ∧ rsame s s' ∧ X = some (a, uI s0 11 (s'.1 0))
def qL (s s0 : RS) (R : Option (Int32 × RS)) (X : Option (Int32 × RS × RS)) : Prop := ∃ a s' q', R = some (a, s') ∧ rsame s s' ∧ X = some (a, uI s0 11 (s'.1 0), q')
def qM (s s0 : RS) (R : Option (Int32 × RS)) (X : Option (Int32 × RS × RS × RS)) : Prop := ∃ a s' q' p', R = some (a, s') ∧ rsame s s' ∧ X = some (a, uI s0 11 (s'.1 0), q', p')
section Q
variable {s r : RS} {B : Nat → Nat}
theorem is_set (hB : blk (s.2.2.1 4) 0 B) (hw : wfB B) (hR : bkR B r) (a0 : Int32) : (∃ t, t < 2 ^ B 0 ∧ t < 65536 ∧ a0 = nI t ∧ pX12_isSet s a0 = some true ∧ pX0_isSet r a0 = some true) ∨ (pX12_isSet s a0 = some false ∧ pX0_isSet r a0 = some false) := by
  have h16 := hw.1
  have hb0 : s.2.2.1 4 (0 : Int32).toNatClampNeg = nI (B 0) := hB.1 0 (by omega)
  have hp : 2 ^ B 0 ≤ 2 ^ 16 := Nat.pow_le_pow_right (by decide) h16
  have hs : (1 : Int32) <<< (nI (B 0) &&& 31) = nI (2 ^ B 0) := s1I (by omega)
  unfold pX12_isSet pX0_isSet pX0_wholeSet
  rw [hb0, hR.2.1, hs, ob_s, show g_in (0 : Int32) 1800 = g_in (γ := Bool) (nI 0) 1800 from rfl, g_inT (by omega) (by omega)]
  rcases isInM a0 (m := 2 ^ B 0) (by omega) with ⟨t, ht, rfl, e, h1, h2, h3⟩ | ⟨e, h⟩
  · refine Or.inl ⟨t, ht, by omega, rfl, by rw [e]; rfl, ?_⟩
    rw [if_neg h1, if_neg h2]
  · refine Or.inr ⟨by rw [e]; rfl, ?_⟩
    rcases h with h | ⟨h1, h2, h3⟩
    · rw [if_pos h]
    · rw [if_neg h1, if_pos h3]
theorem is_change (hB : blk (s.2.2.1 4) 0 B) (hw : wfB B) (hR : bkR B r) (a0 : Int32) : (∃ k, k < B 0 ∧ a0 = nI k ∧ pX12_isChange s a0 = some true ∧ pX0_isChange r a0 = some true) ∨ (pX12_isChange s a0 = some false ∧ pX0_isChange r a0 = some false) := by
  have h16 := hw.1
  have hb0 : s.2.2.1 4 (0 : Int32).toNatClampNeg = nI (B 0) := hB.1 0 (by omega)
  unfold pX12_isChange pX0_isChange
  rw [hb0, hR.2.1, show g_in (0 : Int32) 1800 = g_in (γ := Bool) (nI 0) 1800 from rfl, g_inT (by omega) (by omega)]
  rcases isInM a0 (m := B 0) (by omega) with ⟨t, ht, rfl, e, h1, h2, h3⟩ | ⟨e, h⟩
  · refine Or.inl ⟨t, ht, rfl, by rw [e]; rfl, ?_⟩
    rw [if_neg h1, if_neg h3]
  · refine Or.inr ⟨by rw [e]; rfl, ?_⟩
    rcases h with h | ⟨h1, h2, h3⟩
    · rw [if_pos h]
    · rw [if_neg h1, if_pos h2]
theorem is_island (hB : blk (s.2.2.1 4) 0 B) (hw : wfB B) (hR : bkR B r) (a0 : Int32) : (∃ k, k < B 1 ∧ a0 = nI k ∧ pX12_isIsland s a0 = some true ∧ pX0_isIsland r a0 = some true) ∨ (pX12_isIsland s a0 = some false ∧ pX0_isIsland r a0 = some false) := by
  have h16 := hw.2.1
  have hb0 : s.2.2.1 4 (1 : Int32).toNatClampNeg = nI (B 1) := hB.1 1 (by omega)
  unfold pX12_isIsland pX0_isIsland
  rw [hb0, hR.1, show g_in (1 : Int32) 1800 = g_in (γ := Bool) (nI 1) 1800 from rfl, g_inT (by omega) (by omega)]
  rcases isInM a0 (m := B 1) (by omega) with ⟨t, ht, rfl, e, h1, h2, h3⟩ | ⟨e, h⟩
  · refine Or.inl ⟨t, ht, rfl, by rw [e]; rfl, ?_⟩
    rw [if_neg h1, if_neg h3]
  · refine Or.inr ⟨by rw [e]; rfl, ?_⟩
    rcases h with h | ⟨h1, h2, h3⟩
    · rw [if_pos h]
    · rw [if_neg h1, if_pos h2]
variable {s0 s1 : RS}
theorem q_holds (hB : blk (s.2.2.1 4) 0 B) (hw : wfB B) (hR : bkR B r) (a0 : Int32) : qq s s0 (pX12_holds s a0) (pX11_holds s0 s1 r a0) := by
  unfold pX12_holds pX11_holds
  simp only [thn_eq]
  rcases is_set (s := uI (uI s 1 0) 0 0) hB hw hR a0 with ⟨t, ht, ht', rfl, e1, e2⟩ | ⟨e1, e2⟩
  · have hl := lk_lt hw t
    rw [e1, e2, ob_s, ob_s, if_pos rfl, if_pos rfl, r_lackOf (s := uI (uI s 1 0) 0 0) hB hw ht', x_isClosed hR hw ht', ob_s, ob_s, show (0 : Int32) = nI 0 from rfl, ifE (by omega) (by omega)]
    by_cases e : lk B t = 0
    · rw [if_pos e, e]; exact ⟨_, _, rfl, rq_2 _ _ _, rfl⟩
    · have e' : (lk B t == 0) = false := by simpa using e
      rw [if_neg e, e']; exact ⟨_, _, rfl, rq_2 _ _ _, rfl⟩
  · rw [e1, e2]; exact ⟨_, _, rfl, rq_3 _ _ _ _, rfl⟩
theorem q_lacks (hB : blk (s.2.2.1 4) 0 B) (hw : wfB B) (hR : bkR B r) (a0 : Int32) : qq s s0 (pX12_lacks s a0) (pX11_lacks s0 s1 r a0) := by
  unfold pX12_lacks pX11_lacks
  simp only [thn_eq]
  rcases is_set (s := uI (uI s 1 0) 0 0) hB hw hR a0 with ⟨t, ht, ht', rfl, e1, e2⟩ | ⟨e1, e2⟩
  · rw [e1, e2, ob_s, ob_s, if_pos rfl, if_pos rfl, r_lackOf (s := uI (uI s 1 0) 0 0) hB hw ht', x_missingFrom hR hw ht', ob_s, ob_s]
    exact ⟨_, _, rfl, rq_2 _ _ _, rfl⟩
  · rw [e1, e2]; exact ⟨_, _, rfl, rq_3 _ _ _ _, rfl⟩
theorem q_out (hB : blk (s.2.2.1 4) 0 B) (hw : wfB B) (hR : bkR B r) (a0 a1 : Int32) : qq s s0 (pX12_out s a0 a1) (pX11_out s0 s1 r a0 a1) := by
  have h16 := hw.1
  unfold pX12_out pX11_out
  simp only [thn_eq]
  rcases is_set (s := uI (uI s 1 0) 0 0) hB hw hR a0 with ⟨t, ht, ht', rfl, e1, e2⟩ | ⟨e1, e2⟩
  · rw [e1, e2, ob_s, ob_s, if_pos rfl, if_pos rfl]
    rcases is_change (s := uI (uI s 1 0) 0 0) hB hw hR a1 with ⟨k, hk, rfl, e3, e4⟩ | ⟨e3, e4⟩
    · rw [e3, e4, ob_s, ob_s, if_pos rfl, if_pos rfl, r_hangers (s := uI (uI s 1 0) 0 0) hB hw (by omega), x_without hR hw hk, ob_s, ob_s, show (-1 : Int32) = m1I from rfl, show (1 : Int32) = nI 1 from rfl, show (31 : Int32) = nI 31 from rfl, s1I (by omega), dfI, dfI]
      have e : bdf (bdf t (2 ^ k)) (hgr B k) = bdf t (hgr B k ||| 2 ^ k) := by rw [← bdf_or, Nat.or_comm]
      rw [e]
      exact ⟨_, _, rfl, rq_2 _ _ _, rfl⟩
    · rw [e3, e4]; exact ⟨_, _, rfl, rq_3 _ _ _ _, rfl⟩
  · rw [e1, e2]; exact ⟨_, _, rfl, rq_3 _ _ _ _, rfl⟩
theorem q_pick (hB : blk (s.2.2.1 4) 0 B) (hw : wfB B) (hR : bkR B r) (a0 a1 : Int32) : qq s s0 (pX12_pick s a0 a1) (pX11_pick s0 s1 r a0 a1) := by
  have h16 := hw.1
  unfold pX12_pick pX11_pick
  simp only [thn_eq]
  rcases is_set (s := uI (uI s 1 0) 0 0) hB hw hR a0 with ⟨t, ht, ht', rfl, e1, e2⟩ | ⟨e1, e2⟩
  · rw [e1, e2, ob_s, ob_s, if_pos rfl, if_pos rfl]
    rcases is_change (s := uI (uI s 1 0) 0 0) hB hw hR a1 with ⟨k, hk, rfl, e3, e4⟩ | ⟨e3, e4⟩
    · rw [e3, e4, ob_s, ob_s, if_pos rfl, if_pos rfl, r_hangsOn (s := uI (uI s 1 0) 0 0) hB (by omega), x_including hR hw hk, ob_s, ob_s, show (1 : Int32) = nI 1 from rfl, show (31 : Int32) = nI 31 from rfl, s1I (by omega), orI, orI]
      have e : t ||| 2 ^ k ||| B (98 + k) = t ||| B (98 + k) ||| 2 ^ k := by rw [Nat.or_assoc, Nat.or_assoc, Nat.or_comm (2 ^ k)]
      rw [e]
      exact ⟨_, _, rfl, rq_2 _ _ _, rfl⟩
    · rw [e3, e4]; exact ⟨_, _, rfl, rq_3 _ _ _ _, rfl⟩
  · rw [e1, e2]; exact ⟨_, _, rfl, rq_3 _ _ _ _, rfl⟩
theorem q_quarrels (hB : blk (s.2.2.1 4) 0 B) (hw : wfB B) (hR : bkR B r) (a0 : Int32) : qq s s0 (pX12_quarrels s a0) (pX11_quarrels s0 s1 r a0) := by
  unfold pX12_quarrels pX11_quarrels
  simp only [thn_eq]
  rcases is_set (s := uI (uI s 1 0) 0 0) hB hw hR a0 with ⟨t, ht, ht', rfl, e1, e2⟩ | ⟨e1, e2⟩
  · rw [e1, e2, ob_s, ob_s, if_pos rfl, if_pos rfl, r_quarrelsIn (s := uI (uI s 1 0) 0 0) hB hw ht', x_countQuarrels hR hw ht', ob_s, ob_s]
    exact ⟨_, _, rfl, rq_2 _ _ _, rfl⟩
  · rw [e1, e2]; exact ⟨_, _, rfl, rq_3 _ _ _ _, rfl⟩
theorem q_with (hB : blk (s.2.2.1 4) 0 B) (hw : wfB B) (hR : bkR B r) (a0 a1 : Int32) : qq s s0 (pX12_with s a0 a1) (pX11_with s0 s1 r a0 a1) := by
  have h16 := hw.1
  unfold pX12_with pX11_with
  simp only [thn_eq]
  rcases is_set (s := uI (uI s 1 0) 0 0) hB hw hR a0 with ⟨t, ht, ht', rfl, e1, e2⟩ | ⟨e1, e2⟩
  · rw [e1, e2, ob_s, ob_s, if_pos rfl, if_pos rfl]
    rcases is_change (s := uI (uI s 1 0) 0 0) hB hw hR a1 with ⟨k, hk, rfl, e3, e4⟩ | ⟨e3, e4⟩
    · rw [e3, e4, ob_s, ob_s, if_pos rfl, if_pos rfl, hasT (by omega) (by omega), isInT (by omega) (by omega), ob_s, ob_s]
      cases e : t.testBit k
      · exact ⟨_, _, rfl, rq_3 _ _ _ _, rfl⟩
      · rw [if_pos rfl, if_pos rfl, r_quarrelers (s := uI (uI s 1 0) 0 0) hB hw ht' hk, x_quarrelersOf hR hw ht' hk, ob_s, ob_s]
        exact ⟨_, _, rfl, rq_2 _ _ _, rfl⟩
    · rw [e3, e4]; exact ⟨_, _, rfl, rq_3 _ _ _ _, rfl⟩
  · rw [e1, e2]; exact ⟨_, _, rfl, rq_3 _ _ _ _, rfl⟩
end Q
