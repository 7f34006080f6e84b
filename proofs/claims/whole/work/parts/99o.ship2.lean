/-! TEXTS: SHIP, both ways -/
section V
variable {s q r lg s0 : RS} {b : Nat → Nat} {e T j f st w a : Nat} {tb : Nat → Int64} {nmI : Nat → Nat} {B : Nat → Nat}
theorem ship_b2 (h : badR f s) (hw1 : 1440 ≤ w) (hw2 : w + 7 ≤ 1800) (v : Int32) {R : Option RS} (hR : R = g_in (nI w + (2 : Int32)) 1800 (thn (uA s 4 (upd (s.2.2.1 4) (nI w + (2 : Int32)).toNatClampNeg v)) fun s6 => g_in (nI w + (3 : Int32)) 1800 (thn (uA s6 4 (upd (s6.2.2.1 4) (nI w + (3 : Int32)).toNatClampNeg (0 : Int32))) fun s7 => g_in (nI w + (4 : Int32)) 1800 (thn (uA s7 4 (upd (s7.2.2.1 4) (nI w + (4 : Int32)).toNatClampNeg (0 : Int32))) fun s8 => if (s8.1 12) = 0 then (pX12_isLate s8).bind fun x12 => if x12 = true then (pX12_next s8).bind fun x13 => (pX12_count x13 (0 : Int32) (9 : Int32)).bind fun x14 => g_in (nI w + (3 : Int32)) 1800 (thn (uA x14.2 4 (upd (x14.2.2.2.1 4) (nI w + (3 : Int32)).toNatClampNeg x14.1)) fun s15 => X12_readShip_j85 (nI w) s15) else X12_readShip_j85 (nI w) s8 else X12_readShip_j85 (nI w) s8)))) : ∃ s', R = some s' ∧ badR f s' ∧ s'.1 13 = s.1 13 ∧ rsW w s s' := by
  rw [hR, ad2, ad3, ad4]
  simp (disch := omega) only [g_inT, nI_clamp, thn_eq]
  have h8 : badR f (uA (uA (uA s 4 (upd (s.2.2.1 4) (w + 2) v)) 4 (upd ((uA s 4 (upd (s.2.2.1 4) (w + 2) v)).2.2.1 4) (w + 3) (0 : Int32))) 4 (upd ((uA (uA s 4 (upd (s.2.2.1 4) (w + 2) v)) 4 (upd ((uA s 4 (upd (s.2.2.1 4) (w + 2) v)).2.2.1 4) (w + 3) (0 : Int32))).2.2.1 4) (w + 4) (0 : Int32))) := h
  rw [if_neg (bad_eq h8), j85_bad h8]
  exact ⟨_, rfl, h8, rfl, rsW_tr (rsW_tr (rsW_4 _ _ (by omega)) (rsW_4 _ _ (by omega))) (rsW_4 _ _ (by omega))⟩
theorem p_ship (h : prR tb b e T j s q) (h12 : s.1 12 = nI 0) (hB : blk (s.2.2.1 4) 0 B) (hw : wfB B) (hr0 : r.1 0 = nI (B 1)) (hn2 : nmR 16 (B 1) nmI (s.2.2.2 5) (r.2.2.2 2)) (hw1 : 1440 ≤ w) (hw2 : w + 7 ≤ 1800) (ha : a < 60) (l5 : lg.2.2.1 5 a = nI 0) (l6 : lg.2.2.1 6 a = nI 0) {X : Option (Bool × RS × RS)} (hX : X = (pX4_readIsland s0 q r lg (nI a)).bind fun x4 => if x4.1 = true then (pX8_pass x4.2.1 (14 : Int32)).bind fun x5 => if x5.1 = true then (pX4_readTarget s0 x5.2 r x4.2.2 (nI a)).bind fun x6 => if x6.1 = true then (pX4_readDelay s0 x6.2.1 r x6.2.2 (nI a)).bind fun x7 => if x7.1 = true then some (true, x7.2.1, x7.2.2) else some (false, x7.2.1, x7.2.2) else some (false, x6.2.1, x6.2.2) else some (false, x5.2, x4.2.2) else some (false, x4.2.1, x4.2.2)) : (∃ x y d tw s' j' lg', x < B 1 ∧ y < B 1 ∧ d ≤ 9 ∧ tw ≤ 1 ∧ pX12_readShip s (nI w) = some s' ∧ X = some (true, uI q 10 (nI j'), lg') ∧ prR tb b e T j' s' (uI q 10 (nI j')) ∧ s'.1 12 = nI 0 ∧ rsW w s s' ∧ s'.2.2.1 4 w = s.2.2.1 4 w ∧ (s'.2.2.1 4 (w + 1) = nI x ∧ s'.2.2.1 4 (w + 2) = nI y ∧ s'.2.2.1 4 (w + 3) = nI d ∧ s'.2.2.1 4 (w + 4) = nI tw) ∧ (lg'.2.2.1 3 a = nI x ∧ lg'.2.2.1 4 a = nI y ∧ lg'.2.2.1 5 a = nI d ∧ lg'.2.2.1 6 a = nI tw) ∧ (∀ n, n ≠ 3 → n ≠ 4 → n ≠ 5 → n ≠ 6 → lg'.2.2.1 n = lg.2.2.1 n) ∧ (∀ i, i ≠ a → lg'.2.2.1 3 i = lg.2.2.1 3 i ∧ lg'.2.2.1 4 i = lg.2.2.1 4 i ∧ lg'.2.2.1 5 i = lg.2.2.1 5 i ∧ lg'.2.2.1 6 i = lg.2.2.1 6 i) ∧ lg'.1 = lg.1) ∨ bothF w s q (pX12_readShip s (nI w)) X := by
  have q10 : uI q 10 (nI j) = q := by rw [← h.2.2.2.2.1, uI_self]
  have i4 := hw.2.1
  rw [hX]
  unfold pX12_readShip
  rw [nI_1, show (14 : Int32) = nI 14 from rfl]
  rcases p_lisland h h12 hB hw hr0 hn2 with ⟨x, t1, hx, f1, f2, f3, f4, f5⟩ | ⟨f, v, f1, f2, f3, f4⟩
  · rw [f1, ob_s, x_readIsland ha f2 (x_adv x (by omega) f3), ob_s, if_pos rfl, g_inT (by omega) (by omega), nI_clamp (by omega), thn_eq]
    have r1 : rsW w s (uA t1 4 (upd (t1.2.2.1 4) (w + 1) (nI x))) := rsW_tr (rsW_nx f5) (rsW_4 _ _ (by omega))
    have p1 := prR_4 f4 (upd (t1.2.2.1 4) (w + 1) (nI x))
    have c0 : (uA t1 4 (upd (t1.2.2.1 4) (w + 1) (nI x))).2.2.1 4 w = s.2.2.1 4 w := by rw [uA_at, upd_ne _ _ (by omega), f5.2.2]
    have c1 : (uA t1 4 (upd (t1.2.2.1 4) (w + 1) (nI x))).2.2.1 4 (w + 1) = nI x := by rw [uA_at, upd_at]
    have n1 : (uA t1 4 (upd (t1.2.2.1 4) (w + 1) (nI x))).1 12 = nI 0 := show t1.1 12 = nI 0 from nx_12 f5 h12
    generalize uA t1 4 (upd (t1.2.2.1 4) (w + 1) (nI x)) = t2 at *
    rw [r_isTo p1.1 p1.2.2.1, ob_s, show decide (kR tb b e (tsq b e (j + 1)) = 14) = decide (kJ tb b e (j + 1) = 14) from rfl]
    rcases must_t p1 n1 (k := 14) (by omega) with ⟨t3, g1, g2, g3, g4⟩ | ⟨f, g1, g2, g3, g4⟩
    · rw [g1, ob_s, g2, ob_s, if_pos rfl]
      have r2 : rsW w s t3 := rsW_tr r1 (rsW_nx g4)
      have n3 := nx_12 g4 n1
      rw [uI_uI] at g3 ⊢
      rcases p_lisland g3 n3 (rsW_blk (by omega) r2 hB) hw hr0 (by unfold nmR; rw [r2.2.2.2.1]; exact hn2) with ⟨y, t4, hy, k1, k2, k3, k4, k5⟩ | ⟨f, v, k1, k2, k3, k4⟩
      · rw [k1, ob_s, x_readTarget ha k2 (x_adv y (by omega) k3), ob_s, if_pos rfl, ad2, ad3, ad4]
        rw [uI_uI] at k4 ⊢
        rw [g_inT (by omega) (by omega), nI_clamp (by omega), thn_eq, g_inT (by omega) (by omega), nI_clamp (by omega), thn_eq, g_inT (by omega) (by omega), nI_clamp (by omega), thn_eq]
        have n4 : t4.1 12 = nI 0 := nx_12 k5 n3
        have p8 := prR_4 (prR_4 (prR_4 k4 (upd (t4.2.2.1 4) (w + 2) (nI y))) (upd ((uA t4 4 (upd (t4.2.2.1 4) (w + 2) (nI y))).2.2.1 4) (w + 3) (0 : Int32))) (upd ((uA (uA t4 4 (upd (t4.2.2.1 4) (w + 2) (nI y))) 4 (upd ((uA t4 4 (upd (t4.2.2.1 4) (w + 2) (nI y))).2.2.1 4) (w + 3) (0 : Int32))).2.2.1 4) (w + 4) (0 : Int32))
        have r8 : rsW w s (uA (uA (uA t4 4 (upd (t4.2.2.1 4) (w + 2) (nI y))) 4 (upd ((uA t4 4 (upd (t4.2.2.1 4) (w + 2) (nI y))).2.2.1 4) (w + 3) (0 : Int32))) 4 (upd ((uA (uA t4 4 (upd (t4.2.2.1 4) (w + 2) (nI y))) 4 (upd ((uA t4 4 (upd (t4.2.2.1 4) (w + 2) (nI y))).2.2.1 4) (w + 3) (0 : Int32))).2.2.1 4) (w + 4) (0 : Int32))) := rsW_tr (rsW_tr (rsW_tr (rsW_tr r2 (rsW_nx k5)) (rsW_4 _ _ (by omega))) (rsW_4 _ _ (by omega))) (rsW_4 _ _ (by omega))
        have n8 : (uA (uA (uA t4 4 (upd (t4.2.2.1 4) (w + 2) (nI y))) 4 (upd ((uA t4 4 (upd (t4.2.2.1 4) (w + 2) (nI y))).2.2.1 4) (w + 3) (0 : Int32))) 4 (upd ((uA (uA t4 4 (upd (t4.2.2.1 4) (w + 2) (nI y))) 4 (upd ((uA t4 4 (upd (t4.2.2.1 4) (w + 2) (nI y))).2.2.1 4) (w + 3) (0 : Int32))).2.2.1 4) (w + 4) (0 : Int32))).1 12 = nI 0 := n4
        have e8 : ∀ z, (uA (uA (uA t4 4 (upd (t4.2.2.1 4) (w + 2) (nI y))) 4 (upd ((uA t4 4 (upd (t4.2.2.1 4) (w + 2) (nI y))).2.2.1 4) (w + 3) (0 : Int32))) 4 (upd ((uA (uA t4 4 (upd (t4.2.2.1 4) (w + 2) (nI y))) 4 (upd ((uA t4 4 (upd (t4.2.2.1 4) (w + 2) (nI y))).2.2.1 4) (w + 3) (0 : Int32))).2.2.1 4) (w + 4) (0 : Int32))).2.2.1 4 z = if z = w + 4 then nI 0 else if z = w + 3 then nI 0 else if z = w + 2 then nI y else t2.2.2.1 4 z := fun z => by
          rw [uA_at, uA_at, uA_at, ← show t3.2.2.1 4 z = t2.2.2.1 4 z by rw [g4.2.2], ← show t4.2.2.1 4 z = t3.2.2.1 4 z by rw [k5.2.2]]; rfl
        generalize uA (uA (uA t4 4 (upd (t4.2.2.1 4) (w + 2) (nI y))) 4 (upd ((uA t4 4 (upd (t4.2.2.1 4) (w + 2) (nI y))).2.2.1 4) (w + 3) (0 : Int32))) 4 (upd ((uA (uA t4 4 (upd (t4.2.2.1 4) (w + 2) (nI y))) 4 (upd ((uA t4 4 (upd (t4.2.2.1 4) (w + 2) (nI y))).2.2.1 4) (w + 3) (0 : Int32))).2.2.1 4) (w + 4) (0 : Int32)) = t8 at *
        rw [if_pos (show t8.1 12 = (0 : Int32) from n8)]
        have z5 : (uA (uA lg 3 (upd (lg.2.2.1 3) a (nI x))) 4 (upd ((uA lg 3 (upd (lg.2.2.1 3) a (nI x))).2.2.1 4) a (nI y))).2.2.1 5 a = nI 0 := l5
        have z6 : (uA (uA lg 3 (upd (lg.2.2.1 3) a (nI x))) 4 (upd ((uA lg 3 (upd (lg.2.2.1 3) a (nI x))).2.2.1 4) a (nI y))).2.2.1 6 a = nI 0 := l6
        rcases p_late (s0 := s0) (r := r) (a := a) p8 n8 hw1 hw2 ha (by rw [e8, if_neg (by omega), if_pos rfl]) (by rw [e8, if_pos rfl]) z5 z6 (R := _) (by rw [ad3, nI_clamp (show w + 3 < 2 ^ 31 by omega)]) with ⟨d, tw, s', j', lg', m1, m2, m3, m4, m5, m6, m7, m8, m9, m10, m11, m12, m13, m14, m15⟩ | ⟨f, st, j', s', lg', m1, m2, m3, m4, m5⟩
        · left
          rw [uI_uI] at m4 m5
          refine ⟨x, y, d, tw, s', j', lg', hx, hy, m1, m2, m3, ?_, m5, m6, rsW_tr r8 m7, ?_, ⟨?_, ?_, m9, m10⟩, ⟨?_, ?_, m11, m12⟩, fun n h3 h4 h5 h6 => ?_, fun i hi => ⟨?_, ?_, ?_, ?_⟩, m15⟩
          · rw [m4, ob_s, if_pos rfl]
          · rw [m8 _ (by omega) (by omega), e8, if_neg (by omega), if_neg (by omega), if_neg (by omega), c0]
          · rw [m8 _ (by omega) (by omega), e8, if_neg (by omega), if_neg (by omega), if_neg (by omega), c1]
          · rw [m8 _ (by omega) (by omega), e8, if_neg (by omega), if_neg (by omega), if_pos rfl]
          · rw [m13 3 (by decide) (by decide), uA_ne _ _ (by decide), uA_at, upd_at]
          · rw [m13 4 (by decide) (by decide), uA_at, upd_at]
          · rw [m13 n h5 h6, uA_ne _ _ h4, uA_ne _ _ h3]
          · rw [m13 3 (by decide) (by decide), uA_ne _ _ (by decide), uA_at, upd_ne _ _ hi]
          · rw [m13 4 (by decide) (by decide), uA_at, upd_ne _ _ hi, uA_ne _ _ (by decide)]
          · exact (m14 i hi).1
          · exact (m14 i hi).2
        · right
          rw [uI_uI] at m5
          refine ⟨f, st, j', s', lg', m1, m2, m3, rsW_tr r8 m4, ?_⟩
          rw [m5, ob_s, if_neg Bool.false_ne_true]
      · right
        rw [x_readTarget ha k4 x_adv1, ob_s, if_neg Bool.false_ne_true, k3, ob_s]
        have hb : badR f (fltR f (tsq b e (j + 1 + 1)) t3) := ⟨rfl, k1, k2⟩
        obtain ⟨s', y1, y2, y3, y4⟩ := ship_b2 hb hw1 hw2 v rfl
        exact ⟨f, tsq b e (j + 1 + 1), j + 1 + 1, s', _, y2, y3, y1, rsW_tr (rsW_tr r2 (rsW_flt _)) y4, rfl⟩
    · right
      have hb : badR f (fltR f (tsq b e (j + 1)) t2) := ⟨rfl, g1, g2⟩
      rw [g4, ob_s, if_neg Bool.false_ne_true, g3, ob_s]
      obtain ⟨s', y1, y2, y3, y4⟩ := ship_bad hb hw1 hw2 rfl
      exact ⟨f, tsq b e (j + 1), j + 1, s', _, y2, y3, y1, rsW_tr (rsW_tr r1 (rsW_flt _)) y4, rfl⟩
  · right
    rw [f3, ob_s, x_readIsland ha f4 x_adv1, ob_s, if_neg Bool.false_ne_true, g_inT (by omega) (by omega), thn_eq, nI_clamp (by omega)]
    have r1 : rsW w s (uA (fltR f (tsq b e j) s) 4 (upd ((fltR f (tsq b e j) s).2.2.1 4) (w + 1) v)) := rsW_tr (rsW_flt s) (rsW_4 _ _ (by omega))
    have hb : badR f (uA (fltR f (tsq b e j) s) 4 (upd ((fltR f (tsq b e j) s).2.2.1 4) (w + 1) v)) := ⟨rfl, f1, f2⟩
    have p1 := prR_4 (prR_flt (f := f) (st := tsq b e j) h) (upd ((fltR f (tsq b e j) s).2.2.1 4) (w + 1) v)
    have k13 : (uA (fltR f (tsq b e j) s) 4 (upd ((fltR f (tsq b e j) s).2.2.1 4) (w + 1) v)).1 13 = nI (tsq b e j) := rfl
    generalize uA (fltR f (tsq b e j) s) 4 (upd ((fltR f (tsq b e j) s).2.2.1 4) (w + 1) v) = t2 at *
    rw [r_isTo p1.1 p1.2.2.1, ob_s, must_bad hb, ob_s]
    obtain ⟨s', y1, y2, y3, y4⟩ := ship_bad hb hw1 hw2 rfl
    exact ⟨f, tsq b e j, j, s', uA lg 3 (upd (lg.2.2.1 3) a m1I), y2, y3.trans k13, y1, rsW_tr r1 y4, by rw [q10]⟩
end V
