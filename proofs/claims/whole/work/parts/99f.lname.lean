/-! TEXTS: the names in a LOG, both ways -/
/-- the reference has met a fault -/
def badR (f : Nat) (s : RS) : Prop := s.1 12 = nI f ∧ 1 ≤ f ∧ f ≤ 7
section V
variable {s q r : RS} {b : Nat → Nat} {e T j : Nat} {tb : Nat → Int64} {nm : Nat → Nat} {n f : Nat}
theorem bad_le (h : badR f s) : ¬ s.1 12 ≤ (0 : Int32) := by
  obtain ⟨h1, h2, h3⟩ := h
  rw [h1]; exact nI_ge (a := 0) (by omega) (by omega)
theorem bad_eq (h : badR f s) : ¬ s.1 12 = (0 : Int32) := by
  obtain ⟨h1, h2, h3⟩ := h
  rw [h1]; exact fun x => by have := (nI_eq (b := 0) (by omega) (by omega)).mp x; omega
theorem bad_flt {f st : Nat} (h1 : 1 ≤ f) (h2 : f ≤ 7) : badR f (fltR f st s) := ⟨rfl, h1, h2⟩
theorem must_bad (h : badR f s) (t : Bool) : pX12_must s t = some s := by
  unfold pX12_must
  rw [if_neg (bad_le h)]
theorem fail_bad (h : badR f s) (x y : Int32) : pX12_fail s x y = some s := by
  unfold pX12_fail
  rw [if_neg (bad_le h)]
theorem wrong_bad (h : badR f s) : pX12_wrong s = some s := by
  unfold pX12_wrong X12_wrong_j14
  rw [fail_bad h, fail_bad h, ob_s]
  by_cases c : s.1 14 = (4 : Int32)
  · rw [if_pos c]
  · rw [if_neg c]
theorem count_bad (h : badR f s) (x y : Int32) : pX12_count s x y = some (nI 0, s) := by
  unfold pX12_count X12_count_j19 X12_count_j50
  rw [if_neg (bad_eq h), if_neg (bad_eq h), if_neg (bad_le h)]; rfl
theorem lname_j61_bad (h : badR f s) (k : Int32) : X12_readLogName_j61 k s = some (k, s) := by
  unfold X12_readLogName_j61 X12_readLogName_j82
  rw [if_neg (bad_eq h), must_bad h, ob_s]
theorem lname_j18_bad (h : badR f s) (t : Bool) : X12_readLogName_j18 t s = some (nI 0, s) := by
  unfold X12_readLogName_j18
  rw [if_neg (bad_le h)]
  exact lname_j61_bad h (nI 0)
theorem lname_bad (h : badR f s) (t : Bool) : pX12_readLogName s t = some (nI 0, s) := by
  unfold pX12_readLogName
  rw [if_neg (bad_eq h), lname_j18_bad h]
theorem x_isName (h : prR tb b e T j s q) : pX8_isName q = some (decide (kJ tb b e j = 28)) := by
  have kh := x_kindHere h
  have hle' : kJ tb b e j ≤ 33 := kR_le tb b e (tsq b e j)
  have h10 := h.2.2.2.2.1
  have hj := h.2.2.2.2.2
  have l3 := h.2.2.2.1.2.2.1
  unfold pX8_kindHere at kh
  rw [h10, g_inT (by omega) (by omega), nI_clamp (by omega)] at kh
  have kh' : q.2.2.1 6 j = nI (kJ tb b e j) := Option.some.inj kh
  unfold pX8_isName
  rw [h10, g_inT (by omega) (by omega), nI_clamp (by omega), kh', show (28 : Int32) = nI 28 from rfl, ifE (by omega) (by omega)]
  by_cases c : kJ tb b e j = 28
  · rw [if_pos c, decide_eq_true c]
  · rw [if_neg c, decide_eq_false c]
theorem p_lname (h : prR tb b e T j s q) (h12 : s.1 12 = nI 0) {t : Nat} {isl : Bool} (hcn : X12_readLogName_j18 isl s = (pX12_named s (nI 0) (nI t) (nI n)).bind fun x => X12_readLogName_j61 x s) (hb : t + n ≤ 100) (hn : ∀ k, k < n → s.2.2.2 5 (20 * 0 + t + k) = lN (cv 8 (nm k)) ∧ nok (nm k)) {here : RS → RS → Option (Int32 × RS)} (hx : here q r = (pX8_isName q).bind fun x1 => if x1 = true then g_in (q.1 10) 901 ((some (fdN nm (vc 8 (cv 8 ((q.2.2.2 8 j).toInt.toNat))) n)).bind fun x2 => if x2 = (-1 : Int32) then (pX8_blame q (3 : Int32)).bind fun x3 => some (x2, x3.2) else some (x2, q)) else (pX8_blameToken q).bind fun x4 => some ((-1 : Int32), x4.2)) : (∃ k s', k < n ∧ pX12_readLogName s isl = some (nI k, s') ∧ here q r = some (nI k, q) ∧ pX8_advance q = some (uI q 10 (nI (j + 1))) ∧ prR tb b e T (j + 1) s' (uI q 10 (nI (j + 1))) ∧ nxS s s') ∨ ∃ f a, 1 ≤ f ∧ f ≤ 7 ∧ pX12_readLogName s isl = some (a, fltR f (tsq b e j) s) ∧ here q r = some (m1I, fltX f (tsq b e j) q) := by
  have h10 := h.2.2.2.2.1
  have hj := h.2.2.2.2.2
  have l3 := h.2.2.2.1.2.2.1
  have he9 := h.2.2.2.1.2.2.2.1
  rw [hx, x_isName h, ob_s]
  unfold pX12_readLogName
  rw [h12, if_pos (show nI 0 = (0 : Int32) from rfl), r_isName h.1 he9 h.2.2.1, ob_s]
  show (∃ k s', k < n ∧ (if decide (kJ tb b e j = 28) = true then X12_readLogName_j18 isl s else (pX12_wrong s).bind fun x6 => X12_readLogName_j18 isl x6) = some (nI k, s') ∧ _) ∨ ∃ f a, 1 ≤ f ∧ f ≤ 7 ∧ (if decide (kJ tb b e j = 28) = true then X12_readLogName_j18 isl s else (pX12_wrong s).bind fun x6 => X12_readLogName_j18 isl x6) = some (a, fltR f (tsq b e j) s) ∧ _
  by_cases c : kJ tb b e j = 28
  · obtain ⟨x, x1, x2, x3⟩ := p_word h c
    have ex : vc 8 (cv 8 ((q.2.2.2 8 j).toInt.toNat)) = x := by
      rw [x3, pk_lT (by have := x1.2.1; omega)]
      exact x1.1
    rw [decide_eq_true c, if_pos rfl, if_pos rfl, h10, g_inT (by omega) (by omega), ex, ob_s, hcn, r_named (i := 0) (by omega) hn x1 x2, ob_s]
    unfold X12_readLogName_j61
    rw [h12, if_pos (show nI 0 = (0 : Int32) from rfl)]
    rcases fdN_c nm x n with ⟨g1, _⟩ | ⟨k, g1, _, g2⟩
    · right
      obtain ⟨F1, F2⟩ := p_fail h h12 3
      refine ⟨3, m1I, by omega, by omega, ?_, ?_⟩
      · rw [g1, if_neg (show ¬ (0 : Int32) ≤ m1I by decide), show (3 : Int32) = nI 3 from rfl, F1, ob_s]
        unfold X12_readLogName_j82
        rw [must_bad (bad_flt (by omega) (by omega)), ob_s]
      · rw [g1, if_pos (show m1I = (-1 : Int32) from rfl), show (3 : Int32) = nI 3 from rfl, F2, ob_s]
    · left
      obtain ⟨s', f1, f2, f3, f4⟩ := p_next h (by omega)
      refine ⟨k, s', g1, ?_, ?_, f2, f3, f4⟩
      · rw [g2, if_pos (show (0 : Int32) ≤ nI k from nI_le (a := 0) (by omega) (by omega))]
        unfold X12_readLogName_j82 pX12_must
        rw [h12, if_pos (show nI 0 ≤ (0 : Int32) by decide), if_pos rfl, f1, ob_s, ob_s]
      · rw [g2, if_neg (show ¬ nI k = (-1 : Int32) by rw [show (-1 : Int32) = m1I from rfl, m1_ne (by omega)]; exact id)]
  · right
    obtain ⟨w1, w2⟩ := p_wrong h h12
    rw [decide_eq_false c, if_neg (by decide), if_neg (by decide), w1, w2, ob_s, ob_s]
    by_cases c32 : kJ tb b e j = 32
    · rw [if_pos c32]; exact ⟨1, nI 0, by omega, by omega, lname_j18_bad (bad_flt (by omega) (by omega)) _, rfl⟩
    · rw [if_neg c32]; exact ⟨2, nI 0, by omega, by omega, lname_j18_bad (bad_flt (by omega) (by omega)) _, rfl⟩
end V
