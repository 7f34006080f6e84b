/-! TEXTS: what may stand behind a SHIP's ISLANDS, both ways -/
section V
variable {s q r lg s0 : RS} {b : Nat → Nat} {e T j f st w a : Nat} {tb : Nat → Int64} {B : Nat → Nat}
theorem j85_bad (h : badR f s) (v : Int32) : X12_readShip_j85 v s = some s := by
  unfold X12_readShip_j85
  rw [if_neg (bad_eq h)]
theorem p_late (h : prR tb b e T j s q) (h12 : s.1 12 = nI 0) (hw1 : 1440 ≤ w) (hw2 : w + 7 ≤ 1800) (ha : a < 60) (c3 : s.2.2.1 4 (w + 3) = nI 0) (c4 : s.2.2.1 4 (w + 4) = nI 0) (l5 : lg.2.2.1 5 a = nI 0) (l6 : lg.2.2.1 6 a = nI 0) {R : Option RS} (hR : R = (pX12_isLate s).bind fun x12 => if x12 = true then (pX12_next s).bind fun x13 => (pX12_count x13 (0 : Int32) (9 : Int32)).bind fun x14 => g_in (nI w + (3 : Int32)) 1800 (thn (uA x14.2 4 (upd (x14.2.2.2.1 4) (nI w + (3 : Int32)).toNatClampNeg x14.1)) fun s15 => X12_readShip_j85 (nI w) s15) else X12_readShip_j85 (nI w) s) : (∃ d tw s' j' lg', d ≤ 9 ∧ tw ≤ 1 ∧ R = some s' ∧ pX4_readDelay s0 q r lg (nI a) = some (true, uI q 10 (nI j'), lg') ∧ prR tb b e T j' s' (uI q 10 (nI j')) ∧ s'.1 12 = nI 0 ∧ rsW w s s' ∧ (∀ x, x ≠ w + 3 → x ≠ w + 4 → s'.2.2.1 4 x = s.2.2.1 4 x) ∧ s'.2.2.1 4 (w + 3) = nI d ∧ s'.2.2.1 4 (w + 4) = nI tw ∧ lg'.2.2.1 5 a = nI d ∧ lg'.2.2.1 6 a = nI tw ∧ (∀ n, n ≠ 5 → n ≠ 6 → lg'.2.2.1 n = lg.2.2.1 n) ∧ (∀ x, x ≠ a → lg'.2.2.1 5 x = lg.2.2.1 5 x ∧ lg'.2.2.1 6 x = lg.2.2.1 6 x) ∧ lg'.1 = lg.1) ∨ bothF w s q R (pX4_readDelay s0 q r lg (nI a)) := by
  have hle' : kJ tb b e j ≤ 33 := kR_le tb b e (tsq b e j)
  rw [hR]
  unfold pX4_readDelay
  rw [r_isLate h.1 h.2.2.1, ob_s, x_kindHere h, ob_s, show (15 : Int32) = nI 15 from rfl, ifE (by omega) (by omega), show decide (kR tb b e (tsq b e j) = 15) = decide (kJ tb b e j = 15) from rfl]
  by_cases c : kJ tb b e j = 15
  · obtain ⟨t1, f1, f2, f3, f4⟩ := p_next h (by omega)
    have n1 := nx_12 f4 h12
    rw [decide_eq_true c, if_pos rfl, if_pos c, f1, ob_s, f2, ob_s, show (0 : Int32) = nI 0 from rfl, show (9 : Int32) = nI 9 from rfl]
    rcases p_count f3 n1 (lo := 0) (hi := 9) (by omega) (by omega) with ⟨v, t2, v1, v2, g1, g2, g3, g4⟩ | ⟨f, g1, g2, g3, g4⟩
    · left
      rw [g1, ob_s, x_readNumber ha _ _ g2, ob_s, decide_eq_true (show ¬ nI v = m1I by rw [m1_ne (by omega)]; exact id), if_pos rfl, ad3, g_inT (by omega) (by omega), nI_clamp (by omega), thn_eq]
      rw [uI_uI] at g3 ⊢
      have r1 : rsW w s (uA t2 4 (upd (t2.2.2.1 4) (w + 3) (nI v))) := rsW_tr (rsW_tr (rsW_nx f4) (rsW_nx g4)) (rsW_4 _ _ (by omega))
      have d4 : (uA t2 4 (upd (t2.2.2.1 4) (w + 3) (nI v))).2.2.1 4 (w + 4) = nI 0 := by rw [uA_at, upd_ne _ _ (by omega), g4.2.2, f4.2.2, c4]
      have e6 : (uA lg 5 (upd (lg.2.2.1 5) a (nI v))).2.2.1 6 a = nI 0 := by rw [uA_ne _ _ (by decide)]; exact l6
      obtain ⟨tw, s', j', lg', k1, k2, k3, k4, k5, k6, k7, k8, k9, k10, k11, k12⟩ := p_twice (s0 := s0) (r := r) (a := a) (prR_4 g3 (upd (t2.2.2.1 4) (w + 3) (nI v))) (show t2.1 12 = nI 0 from nx_12 g4 n1) hw1 hw2 ha d4 e6
      rw [uI_uI] at k3 k4
      refine ⟨v, tw, s', j', lg', v2, k1, k2, k3, k4, k5, rsW_tr r1 k6, fun x h3 h4 => ?_, ?_, k8, ?_, k9, fun n h5 h6 => (k10 n h6).trans (uA_ne _ _ h5), fun x hx => ⟨?_, ?_⟩, k12⟩
      · rw [k7 x h4, uA_at, upd_ne _ _ h3, g4.2.2, f4.2.2]
      · rw [k7 _ (by omega), uA_at, upd_at]
      · rw [k10 5 (by decide), uA_at, upd_at]
      · rw [k10 5 (by decide), uA_at, upd_ne _ _ hx]
      · rw [k11 x hx, uA_ne _ _ (by decide)]
    · right
      rw [g3, ob_s, x_readNumber ha _ _ g4, ob_s, decide_eq_false (fun h => h rfl), if_neg Bool.false_ne_true, ad3, g_inT (by omega) (by omega), nI_clamp (by omega), thn_eq]
      have hb : badR f (uA (fltR f (tsq b e (j + 1)) t1) 4 (upd ((fltR f (tsq b e (j + 1)) t1).2.2.1 4) (w + 3) (nI 0))) := ⟨rfl, g1, g2⟩
      rw [j85_bad hb]
      exact ⟨f, tsq b e (j + 1), j + 1, _, _, hb, rfl, rfl, rsW_tr (rsW_tr (rsW_nx f4) (rsW_flt _)) (rsW_4 _ _ (by omega)), rfl⟩
  · left
    rw [decide_eq_false c, if_neg Bool.false_ne_true, if_neg c]
    obtain ⟨tw, s', j', lg', k1, k2, k3, k4, k5, k6, k7, k8, k9, k10, k11, k12⟩ := p_twice (s0 := s0) (r := r) (a := a) h h12 hw1 hw2 ha c4 l6
    refine ⟨0, tw, s', j', lg', by omega, k1, k2, k3, k4, k5, k6, fun x _ h4 => k7 x h4, ?_, k8, ?_, k9, fun n _ h6 => k10 n h6, fun x hx => ⟨?_, k11 x hx⟩, k12⟩
    · rw [k7 _ (by omega), c3]
    · rw [k10 5 (by decide), l5]
    · rw [k10 5 (by decide)]
end V
