/-! TEXTS: behind MAKE, OUT, PICK -/
section V
variable {s q r lg s0 : RS} {b : Nat → Nat} {e T j f st w a : Nat} {tb : Nat → Int64} {nm nmI : Nat → Nat} {B : Nat → Nat}
theorem x_adv {q q' : RS} (k : Nat) (hk : k < 2 ^ 31) (h : pX8_advance q = some q') : pX4_advanceBehind s0 q r lg (nI k) = some (true, q') := by
  unfold pX4_advanceBehind
  rw [if_neg (show ¬ nI k = (-1 : Int32) by rw [show (-1 : Int32) = m1I from rfl, m1_ne hk]; exact id), h, ob_s]
theorem x_adv1 {q : RS} : pX4_advanceBehind s0 q r lg m1I = some (false, q) := by
  unfold pX4_advanceBehind
  rw [if_pos (show m1I = (-1 : Int32) from rfl)]
theorem x_readChange {q1 : RS} {v : Int32} {y : Bool} {q2 : RS} (ha : a < 60) (h1 : pX8_changeHere q r = some (v, q1)) (h2 : pX4_advanceBehind s0 q1 r (uA lg 4 (upd (lg.2.2.1 4) a v)) v = some (y, q2)) : pX4_readChange s0 q r lg (nI a) = some (y, q2, uA lg 4 (upd (lg.2.2.1 4) a v)) := by
  unfold pX4_readChange
  rw [h1, ob_s, g_inT ha (by omega), nI_clamp (by omega), thn_eq, g_inT ha (by omega), show (uA lg 4 (upd (lg.2.2.1 4) a v)).2.2.1 4 a = v by rw [uA_at, upd_at], h2, ob_s]
theorem x_readIsland {q1 : RS} {v : Int32} {y : Bool} {q2 : RS} (ha : a < 60) (h1 : pX8_islandHere q r = some (v, q1)) (h2 : pX4_advanceBehind s0 q1 r (uA lg 3 (upd (lg.2.2.1 3) a v)) v = some (y, q2)) : pX4_readIsland s0 q r lg (nI a) = some (y, q2, uA lg 3 (upd (lg.2.2.1 3) a v)) := by
  unfold pX4_readIsland
  rw [h1, ob_s, g_inT ha (by omega), nI_clamp (by omega), thn_eq, g_inT ha (by omega), show (uA lg 3 (upd (lg.2.2.1 3) a v)).2.2.1 3 a = v by rw [uA_at, upd_at], h2, ob_s]
theorem prR_flt (h : prR tb b e T j s q) : prR tb b e T j (fltR f st s) q := ⟨h.1, ⟨h.2.1.1, h.2.1.2.1, fun i hi => h.2.1.2.2 i hi⟩, h.2.2.1, h.2.2.2⟩
theorem rsW_blk {s s' : RS} (hw : 114 ≤ w) (h : rsW w s s') (hB : blk (s.2.2.1 4) 0 B) : blk (s'.2.2.1 4) 0 B := ⟨fun j hj => by rw [h.2.2.2.2 (0 + j) (by omega)]; exact hB.1 j hj, hB.2⟩
/-- the fault both have -/
def bothF (w : Nat) (s : RS) (q : RS) (R : Option RS) (X : Option (Bool × RS × RS)) : Prop := ∃ f st j' s' lg', badR f s' ∧ s'.1 13 = nI st ∧ R = some s' ∧ rsW w s s' ∧ X = some (false, fltX f st (uI q 10 (nI j')), lg')
theorem p_at (h : prR tb b e T j s q) (h12 : s.1 12 = nI 0) (hB : blk (s.2.2.1 4) 0 B) (hw : wfB B) (hr1 : r.1 1 = nI (B 0)) (hr0 : r.1 0 = nI (B 1)) (hn : nmR 0 (B 0) nm (s.2.2.2 5) (r.2.2.2 3)) (hn2 : nmR 16 (B 1) nmI (s.2.2.2 5) (r.2.2.2 2)) (hw1 : 1440 ≤ w) (hw2 : w + 7 ≤ 1800) (ha : a < 60) : (∃ x i s' j', x < B 0 ∧ i < B 1 ∧ X12_readRest_j21 (nI w) s = some s' ∧ X4_readBody_j76 (nI a) s0 q r lg = some (true, uI q 10 (nI j'), uA (uA lg 4 (upd (lg.2.2.1 4) a (nI x))) 3 (upd (lg.2.2.1 3) a (nI i))) ∧ prR tb b e T j' s' (uI q 10 (nI j')) ∧ s'.1 12 = nI 0 ∧ rsW w s s' ∧ s'.2.2.1 4 w = s.2.2.1 4 w ∧ s'.2.2.1 4 (w + 1) = nI x ∧ s'.2.2.1 4 (w + 2) = nI i) ∨ bothF w s q (X12_readRest_j21 (nI w) s) (X4_readBody_j76 (nI a) s0 q r lg) := by
  have q10 : uI q 10 (nI j) = q := by rw [← h.2.2.2.2.1, uI_self]
  have i16 := hw.1
  have i4 := hw.2.1
  unfold X12_readRest_j21 X4_readBody_j76
  rw [nI_1, ad2, show (12 : Int32) = nI 12 from rfl]
  rcases p_lchange h h12 hB hw hr1 hn with ⟨x, t1, hx, f1, f2, f3, f4, f5⟩ | ⟨f, v, f1, f2, f3, f4⟩
  · rw [f1, ob_s, x_readChange ha f2 (x_adv x (by omega) f3), ob_s, if_pos rfl, g_inT (by omega) (by omega), nI_clamp (by omega), thn_eq]
    have n0 := nx_12 f5 h12
    have r1 : rsW w s (uA t1 4 (upd (t1.2.2.1 4) (w + 1) (nI x))) := rsW_tr (rsW_nx f5) (rsW_4 _ _ (by omega))
    have p1 := prR_4 f4 (upd (t1.2.2.1 4) (w + 1) (nI x))
    have c0 : (uA t1 4 (upd (t1.2.2.1 4) (w + 1) (nI x))).2.2.1 4 w = s.2.2.1 4 w := by rw [uA_at, upd_ne _ _ (by omega), f5.2.2]
    have c1 : (uA t1 4 (upd (t1.2.2.1 4) (w + 1) (nI x))).2.2.1 4 (w + 1) = nI x := by rw [uA_at, upd_at]
    have n1 : (uA t1 4 (upd (t1.2.2.1 4) (w + 1) (nI x))).1 12 = nI 0 := n0
    generalize uA t1 4 (upd (t1.2.2.1 4) (w + 1) (nI x)) = t2 at *
    rw [r_isAt p1.1 p1.2.2.1, ob_s, show decide (kR tb b e (tsq b e (j + 1)) = 12) = decide (kJ tb b e (j + 1) = 12) from rfl]
    rcases must_t p1 n1 (k := 12) (by omega) with ⟨t3, g1, g2, g3, g4⟩ | ⟨f, g1, g2, g3, g4⟩
    · rw [g1, ob_s, g2, ob_s, if_pos rfl]
      have r2 : rsW w s t3 := rsW_tr r1 (rsW_nx g4)
      rw [uI_uI] at g3 ⊢
      rcases p_lisland g3 (nx_12 g4 n1) (rsW_blk (by omega) r2 hB) hw hr0 (by unfold nmR; rw [r2.2.2.2.1]; exact hn2) with ⟨i, t4, hi, k1, k2, k3, k4, k5⟩ | ⟨f, v, k1, k2, k3, k4⟩
      · left
        rw [k1, ob_s, x_readIsland ha k2 (x_adv i (by omega) k3), ob_s, if_pos rfl, g_inT (by omega) (by omega), nI_clamp (by omega), thn_eq]
        rw [uI_uI] at k4 ⊢
        refine ⟨x, i, _, j + 1 + 1 + 1, hx, hi, rfl, rfl, prR_4 k4 _, show t4.1 12 = nI 0 from nx_12 k5 (nx_12 g4 n1), rsW_tr (rsW_tr r2 (rsW_nx k5)) (rsW_4 _ _ (by omega)), ?_, ?_, ?_⟩
        · rw [uA_at, upd_ne _ _ (by omega), k5.2.2, g4.2.2, c0]
        · rw [uA_at, upd_ne _ _ (by omega), k5.2.2, g4.2.2, c1]
        · rw [uA_at, upd_at]
      · right
        rw [k3, ob_s, x_readIsland ha k4 x_adv1, ob_s, if_neg Bool.false_ne_true, g_inT (by omega) (by omega), thn_eq, nI_clamp (by omega)]
        exact ⟨f, _, j + 1 + 1, _, _, ⟨rfl, k1, k2⟩, rfl, rfl, rsW_tr (rsW_tr r2 (rsW_flt _)) (rsW_4 _ _ (by omega)), rfl⟩
    · right
      have hb : badR f (fltR f (tsq b e (j + 1)) t2) := ⟨rfl, g1, g2⟩
      rw [g3, ob_s, g4, ob_s, if_neg Bool.false_ne_true, lname_bad hb, ob_s, g_inT (by omega) (by omega), thn_eq, nI_clamp (by omega)]
      exact ⟨f, _, j + 1, _, _, ⟨rfl, g1, g2⟩, rfl, rfl, rsW_tr (rsW_tr r1 (rsW_flt _)) (rsW_4 _ _ (by omega)), rfl⟩
  · right
    rw [f3, ob_s, x_readChange ha f4 x_adv1, ob_s, if_neg Bool.false_ne_true, g_inT (by omega) (by omega), thn_eq, nI_clamp (by omega)]
    have r1 : rsW w s (uA (fltR f (tsq b e j) s) 4 (upd ((fltR f (tsq b e j) s).2.2.1 4) (w + 1) v)) := rsW_tr (rsW_flt s) (rsW_4 _ _ (by omega))
    have hb : badR f (uA (fltR f (tsq b e j) s) 4 (upd ((fltR f (tsq b e j) s).2.2.1 4) (w + 1) v)) := ⟨rfl, f1, f2⟩
    have p1 := prR_4 (prR_flt (f := f) (st := tsq b e j) h) (upd ((fltR f (tsq b e j) s).2.2.1 4) (w + 1) v)
    have k13 : (uA (fltR f (tsq b e j) s) 4 (upd ((fltR f (tsq b e j) s).2.2.1 4) (w + 1) v)).1 13 = nI (tsq b e j) := rfl
    generalize uA (fltR f (tsq b e j) s) 4 (upd ((fltR f (tsq b e j) s).2.2.1 4) (w + 1) v) = t2 at *
    rw [r_isAt p1.1 p1.2.2.1, ob_s, must_bad hb, ob_s, lname_bad hb, ob_s, g_inT (by omega) (by omega), thn_eq, nI_clamp (by omega)]
    refine ⟨f, tsq b e j, j, uA t2 4 (upd (t2.2.2.1 4) (w + 2) (nI 0)), uA lg 4 (upd (lg.2.2.1 4) a m1I), ⟨hb.1, f1, f2⟩, k13, rfl, rsW_tr r1 (rsW_4 _ _ (by omega)), ?_⟩
    rw [q10]
end V
