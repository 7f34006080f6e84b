/-! TEXTS: a CHANGE's name and an ISLAND's name in a LOG -/
section V
variable {s q r : RS} {b : Nat → Nat} {e T j : Nat} {tb : Nat → Int64} {nm : Nat → Nat} {B : Nat → Nat}
/-- the names of the book in the block o (20 * i, 20 * i + 16) and in the class's Book -/
def nmR (o n : Nat) (nm : Nat → Nat) (f g : Nat → Int64) : Prop := ∀ k, k < n → f (o + k) = lN (cv 8 (nm k)) ∧ g k = lN (nm k) ∧ nok (nm k)
theorem p_lchange (h : prR tb b e T j s q) (h12 : s.1 12 = nI 0) (hB : blk (s.2.2.1 4) 0 B) (hw : wfB B) (hr : r.1 1 = nI (B 0)) (hn : nmR 0 (B 0) nm (s.2.2.2 5) (r.2.2.2 3)) : (∃ k s', k < B 0 ∧ pX12_readLogName s false = some (nI k, s') ∧ pX8_changeHere q r = some (nI k, q) ∧ pX8_advance q = some (uI q 10 (nI (j + 1))) ∧ prR tb b e T (j + 1) s' (uI q 10 (nI (j + 1))) ∧ nxS s s') ∨ ∃ f a, 1 ≤ f ∧ f ≤ 7 ∧ pX12_readLogName s false = some (a, fltR f (tsq b e j) s) ∧ pX8_changeHere q r = some (m1I, fltX f (tsq b e j) q) := by
  have h16 := hw.1
  have hb0 : s.2.2.1 4 0 = nI (B 0) := hB.1 0 (by omega)
  have h10 := h.2.2.2.2.1
  have hj := h.2.2.2.2.2
  have l3 := h.2.2.2.1.2.2.1
  refine p_lname (t := 0) (n := B 0) (nm := nm) h h12 ?_ (by omega) (fun k hk => ?_) ?_
  · unfold X12_readLogName_j18
    rw [h12, if_pos (show nI 0 ≤ (0 : Int32) by decide), if_neg Bool.false_ne_true, show (0 : Int32) = nI 0 from rfl, g_inT (by omega) (by omega), nI_clamp (by omega), hb0]
  · have := hn k hk
    rw [show 20 * 0 + 0 + k = 0 + k by omega]; exact ⟨this.1, this.2.2⟩
  · unfold pX8_changeHere
    rw [x_isName h, ob_s, ob_s]
    by_cases c : kJ tb b e j = 28
    · obtain ⟨x, x1, x2, x3⟩ := p_word h c
      have ex : vc 8 (cv 8 ((q.2.2.2 8 j).toInt.toNat)) = x := by
        rw [x3, pk_lT (by have := x1.2.1; omega)]
        exact x1.1
      rw [ex, h10, nI_clamp (by omega), x3, x_findChange hr h16 (fun k hk => ⟨(hn k hk).2.1, (hn k hk).2.2⟩) x1]
    · rw [decide_eq_false c, if_neg Bool.false_ne_true, if_neg Bool.false_ne_true]
theorem p_lisland (h : prR tb b e T j s q) (h12 : s.1 12 = nI 0) (hB : blk (s.2.2.1 4) 0 B) (hw : wfB B) (hr : r.1 0 = nI (B 1)) (hn : nmR 16 (B 1) nm (s.2.2.2 5) (r.2.2.2 2)) : (∃ k s', k < B 1 ∧ pX12_readLogName s true = some (nI k, s') ∧ pX8_islandHere q r = some (nI k, q) ∧ pX8_advance q = some (uI q 10 (nI (j + 1))) ∧ prR tb b e T (j + 1) s' (uI q 10 (nI (j + 1))) ∧ nxS s s') ∨ ∃ f a, 1 ≤ f ∧ f ≤ 7 ∧ pX12_readLogName s true = some (a, fltR f (tsq b e j) s) ∧ pX8_islandHere q r = some (m1I, fltX f (tsq b e j) q) := by
  have h4 := hw.2.1
  have hb1 : s.2.2.1 4 1 = nI (B 1) := hB.1 1 (by omega)
  have h10 := h.2.2.2.2.1
  have hj := h.2.2.2.2.2
  have l3 := h.2.2.2.1.2.2.1
  refine p_lname (t := 16) (n := B 1) (nm := nm) h h12 ?_ (by omega) (fun k hk => ?_) ?_
  · unfold X12_readLogName_j18
    rw [h12, if_pos (show nI 0 ≤ (0 : Int32) by decide), if_pos rfl, show (1 : Int32) = nI 1 from rfl, g_inT (by omega) (by omega), nI_clamp (by omega), hb1]; rfl
  · have := hn k hk
    rw [show 20 * 0 + 16 + k = 16 + k by omega]; exact ⟨this.1, this.2.2⟩
  · unfold pX8_islandHere
    rw [x_isName h, ob_s, ob_s]
    by_cases c : kJ tb b e j = 28
    · obtain ⟨x, x1, x2, x3⟩ := p_word h c
      have ex : vc 8 (cv 8 ((q.2.2.2 8 j).toInt.toNat)) = x := by
        rw [x3, pk_lT (by have := x1.2.1; omega)]
        exact x1.1
      rw [ex, h10, nI_clamp (by omega), x3, x_findIsland hr h4 (fun k hk => ⟨(hn k hk).2.1, (hn k hk).2.2⟩) x1]
    · rw [decide_eq_false c, if_neg Bool.false_ne_true, if_neg Bool.false_ne_true]
end V
