/-! TEXTS: behind WAIT, LOOP, DRAW and WHEN DAY: a number, both ways -/
section V
variable {s q r lg s0 : RS} {b : Nat → Nat} {e T j f st w a : Nat} {tb : Nat → Int64} {B : Nat → Nat}
theorem x_readNumber {q1 : RS} {v : Int32} (ha : a < 60) (lo hi : Int32) (h1 : pX8_passNumber q lo hi = some (v, q1)) : pX4_readNumber s0 q r lg (nI a) lo hi = some (decide (¬ v = m1I), q1, uA lg 5 (upd (lg.2.2.1 5) a v)) := by
  unfold pX4_readNumber
  rw [h1, ob_s, g_inT ha (by omega), nI_clamp (by omega), thn_eq, g_inT ha (by omega), show (uA lg 5 (upd (lg.2.2.1 5) a v)).2.2.1 5 a = v by rw [uA_at, upd_at], show (-1 : Int32) = m1I from rfl]
  by_cases c : v = m1I
  · rw [if_pos c, decide_eq_false (fun h => h c)]
  · rw [if_neg c, decide_eq_true c]
theorem p_numb (h : prR tb b e T j s q) (h12 : s.1 12 = nI 0) (hw1 : 1440 ≤ w) (hw2 : w + 7 ≤ 1800) (ha : a < 60) {lo hi : Nat} (hh : hi < 100000) (hl : lo ≤ hi) : (∃ v s', lo ≤ v ∧ v ≤ hi ∧ ((pX12_count s (nI lo) (nI hi)).bind fun x8 => g_in (nI w + (1 : Int32)) 1800 (thn (uA x8.2 4 (upd (x8.2.2.2.1 4) (nI w + (1 : Int32)).toNatClampNeg x8.1)) fun s9 => some s9)) = some s' ∧ pX4_readNumber s0 q r lg (nI a) (nI lo) (nI hi) = some (true, uI q 10 (nI (j + 1)), uA lg 5 (upd (lg.2.2.1 5) a (nI v))) ∧ prR tb b e T (j + 1) s' (uI q 10 (nI (j + 1))) ∧ s'.1 12 = nI 0 ∧ rsW w s s' ∧ (∀ x, x ≠ w + 1 → s'.2.2.1 4 x = s.2.2.1 4 x) ∧ s'.2.2.1 4 (w + 1) = nI v) ∨ bothF w s q ((pX12_count s (nI lo) (nI hi)).bind fun x8 => g_in (nI w + (1 : Int32)) 1800 (thn (uA x8.2 4 (upd (x8.2.2.2.1 4) (nI w + (1 : Int32)).toNatClampNeg x8.1)) fun s9 => some s9)) (pX4_readNumber s0 q r lg (nI a) (nI lo) (nI hi)) := by
  have q10 : uI q 10 (nI j) = q := by rw [← h.2.2.2.2.1, uI_self]
  rw [nI_1]
  rcases p_count h h12 hh hl with ⟨v, s', v1, v2, f1, f2, f3, f4⟩ | ⟨f, g1, g2, g3, g4⟩
  · left
    rw [f1, ob_s, x_readNumber ha _ _ f2, g_inT (by omega) (by omega), nI_clamp (by omega), thn_eq, decide_eq_true (show ¬ nI v = m1I by rw [m1_ne (by omega)]; exact id)]
    refine ⟨v, uA s' 4 (upd (s'.2.2.1 4) (w + 1) (nI v)), v1, v2, rfl, rfl, prR_4 f3 _, show s'.1 12 = nI 0 from nx_12 f4 h12, rsW_tr (rsW_nx f4) (rsW_4 _ _ (by omega)), fun x hx => ?_, ?_⟩
    · rw [uA_at, upd_ne _ _ hx, f4.2.2]
    · rw [uA_at, upd_at]
  · right
    rw [g3, ob_s, x_readNumber ha _ _ g4, g_inT (by omega) (by omega), nI_clamp (by omega), thn_eq, decide_eq_false (fun h => h rfl)]
    refine ⟨f, tsq b e j, j, uA (fltR f (tsq b e j) s) 4 (upd ((fltR f (tsq b e j) s).2.2.1 4) (w + 1) (nI 0)), uA lg 5 (upd (lg.2.2.1 5) a m1I), ⟨rfl, g1, g2⟩, rfl, rfl, rsW_tr (rsW_flt s) (rsW_4 _ _ (by omega)), ?_⟩
    rw [q10]
end V
