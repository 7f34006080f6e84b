/-! TEXTS: LATE and TWICE, both ways -/
section V
variable {s q r lg s0 : RS} {b : Nat → Nat} {e T j f st w a : Nat} {tb : Nat → Int64} {B : Nat → Nat}
theorem p_twice (h : prR tb b e T j s q) (h12 : s.1 12 = nI 0) (hw1 : 1440 ≤ w) (hw2 : w + 7 ≤ 1800) (ha : a < 60) (c4 : s.2.2.1 4 (w + 4) = nI 0) (l6 : lg.2.2.1 6 a = nI 0) : ∃ tw s' j' lg', tw ≤ 1 ∧ X12_readShip_j85 (nI w) s = some s' ∧ X4_readDelay_j32 (nI a) s0 q r lg = some (true, uI q 10 (nI j'), lg') ∧ prR tb b e T j' s' (uI q 10 (nI j')) ∧ s'.1 12 = nI 0 ∧ rsW w s s' ∧ (∀ x, x ≠ w + 4 → s'.2.2.1 4 x = s.2.2.1 4 x) ∧ s'.2.2.1 4 (w + 4) = nI tw ∧ lg'.2.2.1 6 a = nI tw ∧ (∀ n, n ≠ 6 → lg'.2.2.1 n = lg.2.2.1 n) ∧ (∀ x, x ≠ a → lg'.2.2.1 6 x = lg.2.2.1 6 x) ∧ lg'.1 = lg.1 := by
  have q10 : uI q 10 (nI j) = q := by rw [← h.2.2.2.2.1, uI_self]
  have hle' : kJ tb b e j ≤ 33 := kR_le tb b e (tsq b e j)
  unfold X12_readShip_j85 X4_readDelay_j32
  rw [h12, if_pos (show nI 0 = (0 : Int32) from rfl), r_isTwice h.1 h.2.2.1, ob_s, x_kindHere h, ob_s, show (16 : Int32) = nI 16 from rfl, ifE (by omega) (by omega), show decide (kR tb b e (tsq b e j) = 16) = decide (kJ tb b e j = 16) from rfl]
  by_cases c : kJ tb b e j = 16
  · obtain ⟨s', f1, f2, f3, f4⟩ := p_next h (by omega)
    rw [decide_eq_true c, if_pos rfl, if_pos c, f1, ob_s, f2, ad4, g_inT (by omega) (by omega), nI_clamp (by omega), thn_eq, g_inT ha (by omega), nI_clamp (by omega), thn_eq, ob_s]
    refine ⟨1, uA s' 4 (upd (s'.2.2.1 4) (w + 4) (nI 1)), j + 1, uA lg 6 (upd (lg.2.2.1 6) a (nI 1)), by omega, rfl, rfl, prR_4 f3 _, show s'.1 12 = nI 0 from nx_12 f4 h12, rsW_tr (rsW_nx f4) (rsW_4 _ _ (by omega)), fun x hx => ?_, ?_, ?_, fun n hn => uA_ne _ _ hn, fun x hx => ?_, rfl⟩
    · rw [uA_at, upd_ne _ _ hx, f4.2.2]
    · rw [uA_at, upd_at]
    · rw [uA_at, upd_at]
    · rw [uA_at, upd_ne _ _ hx]
  · rw [decide_eq_false c, if_neg Bool.false_ne_true, if_neg c]
    refine ⟨0, s, j, lg, by omega, rfl, ?_, ?_, h12, rsW_rf w s, fun _ _ => rfl, c4, l6, fun _ _ => rfl, fun _ _ => rfl, rfl⟩
    · rw [q10]
    · rw [q10]; exact h
end V
