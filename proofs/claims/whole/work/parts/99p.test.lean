/-! TEXTS: behind WHEN, both ways -/
/-- only row a of the LOG has changed, its partner hasn't -/
def lgS (a : Nat) (lg lg' : RS) : Prop := lg'.1 = lg.1 ∧ lg'.2.2.1 7 = lg.2.2.1 7 ∧ ∀ n i, i ≠ a → lg'.2.2.1 n i = lg.2.2.1 n i
theorem lgS_tr {a : Nat} {x y z : RS} (h : lgS a x y) (k : lgS a y z) : lgS a x z := ⟨k.1.trans h.1, k.2.1.trans h.2.1, fun n i hi => (k.2.2 n i hi).trans (h.2.2 n i hi)⟩
theorem lgS_rf (a : Nat) (lg : RS) : lgS a lg lg := ⟨rfl, rfl, fun _ _ _ => rfl⟩
theorem lgS_u {a m : Nat} (lg : RS) (v : Int32) (hm : m ≠ 7) : lgS a lg (uA lg m (upd (lg.2.2.1 m) a v)) := ⟨rfl, uA_ne _ _ (fun h => hm h.symm), fun n i hi => by
  by_cases c : n = m
  · rw [c, uA_at, upd_ne _ _ hi]
  · rw [uA_ne _ _ c]⟩
/-- a TEST, both ways -/
def tsW (B : Nat → Nat) (lg : RS) (c : Nat → Int32) (a w : Nat) : Prop :=
  (∃ x y, x < B 1 ∧ y < B 0 ∧ lg.2.2.1 2 a = nI 20 ∧ lg.2.2.1 3 a = nI x ∧ lg.2.2.1 4 a = nI y ∧ c (w + 5) = nI 0 ∧ c (w + 1) = nI x ∧ c (w + 2) = nI y) ∨
  (∃ x, x < B 1 ∧ lg.2.2.1 2 a = nI 21 ∧ lg.2.2.1 3 a = nI x ∧ c (w + 5) = nI 1 ∧ c (w + 1) = nI x) ∨
  (∃ n, n ≤ 999 ∧ lg.2.2.1 2 a = nI 22 ∧ lg.2.2.1 5 a = nI n ∧ c (w + 5) = nI 2 ∧ c (w + 1) = nI n)
section V
variable {s q r lg s0 : RS} {b : Nat → Nat} {e T j f st w a : Nat} {tb : Nat → Int64} {nm nmI : Nat → Nat} {B : Nat → Nat}
theorem must_tr {s' : RS} (h12 : s.1 12 = nI 0) (h : pX12_next s = some s') : pX12_must s true = some s' := by
  unfold pX12_must
  rw [h12, if_pos (show nI 0 ≤ (0 : Int32) by decide), if_pos rfl, h, ob_s]
theorem must_fl (h : prR tb b e T j s q) (h12 : s.1 12 = nI 0) : pX12_must s false = some (fltR (if kJ tb b e j = 32 then 1 else 2) (tsq b e j) s) := by
  unfold pX12_must
  rw [h12, if_pos (show nI 0 ≤ (0 : Int32) by decide), if_neg Bool.false_ne_true, (p_wrong h h12).1, ob_s]
theorem j34_t {t : Nat} (ht : t ≤ 2) (v : Int32) : X12_readTest_j34 v (nI t) s = X12_readTest_j45 v (nI t) true s := by
  unfold X12_readTest_j34
  rw [if_neg (nI_pos (by omega))]
theorem p_test (h : prR tb b e T j s q) (h12 : s.1 12 = nI 0) (hB : blk (s.2.2.1 4) 0 B) (hw : wfB B) (hr1 : r.1 1 = nI (B 0)) (hr0 : r.1 0 = nI (B 1)) (hn : nmR 0 (B 0) nm (s.2.2.2 5) (r.2.2.2 3)) (hn2 : nmR 16 (B 1) nmI (s.2.2.2 5) (r.2.2.2 2)) (hw1 : 1440 ≤ w) (hw2 : w + 7 ≤ 1800) (ha : a < 60) : (∃ s' j' lg', pX12_readTest s (nI w) = some s' ∧ pX4_readTest s0 q r lg (nI a) = some (true, uI q 10 (nI j'), lg') ∧ prR tb b e T j' s' (uI q 10 (nI j')) ∧ s'.1 12 = nI 0 ∧ rsW w s s' ∧ s'.2.2.1 4 w = s.2.2.1 4 w ∧ lgS a lg lg' ∧ tsW B lg' (s'.2.2.1 4) a w) ∨ bothF w s q (pX12_readTest s (nI w)) (pX4_readTest s0 q r lg (nI a)) := by
  have q10 : uI q 10 (nI j) = q := by rw [← h.2.2.2.2.1, uI_self]
  have i16 := hw.1
  have i4 := hw.2.1
  have hle' : kJ tb b e j ≤ 33 := kR_le tb b e (tsq b e j)
  unfold pX12_readTest pX4_readTest
  rw [r_isHas h.1 h.2.2.1, ob_s, r_isQuietWord h.1 h.2.2.1, ob_s, r_isDayWord h.1 h.2.2.1, ob_s, x_kindHere h, ob_s, g_inT ha (by omega), nI_clamp (by omega), thn_eq, show (20 : Int32) = nI 20 from rfl, show (21 : Int32) = nI 21 from rfl, show (22 : Int32) = nI 22 from rfl, ifE (by omega) (by omega), ifE (by omega) (by omega), ifE (by omega) (by omega), show decide (kR tb b e (tsq b e j) = 20) = decide (kJ tb b e j = 20) from rfl, show decide (kR tb b e (tsq b e j) = 21) = decide (kJ tb b e j = 21) from rfl, show decide (kR tb b e (tsq b e j) = 22) = decide (kJ tb b e j = 22) from rfl, show (0 : Int32) = nI 0 from rfl, show (1 : Int32) = nI 1 from rfl, show (2 : Int32) = nI 2 from rfl, show (999 : Int32) = nI 999 from rfl, j34_t (by omega), j34_t (by omega), j34_t (by omega)]
  by_cases c20 : kJ tb b e j = 20
  · obtain ⟨t1, f1, f2, f3, f4⟩ := p_next h (by omega)
    have n1 := nx_12 f4 h12
    rw [decide_eq_true c20, if_pos rfl, if_pos c20, f2, ob_s, c20]
    unfold X12_readTest_j45
    rw [must_tr h12 f1, ob_s, ad5, g_inT (by omega) (by omega), nI_clamp (by omega), thn_eq, if_neg (show ¬ nI 0 = (2 : Int32) by decide), if_neg (show ¬ nI 0 < 0 by decide), nI_1, ad2]
    have r1 : rsW w s (uA t1 4 (upd (t1.2.2.1 4) (w + 5) (nI 0))) := rsW_tr (rsW_nx f4) (rsW_4 _ _ (by omega))
    have p1 := prR_4 f3 (upd (t1.2.2.1 4) (w + 5) (nI 0))
    have n2 : (uA t1 4 (upd (t1.2.2.1 4) (w + 5) (nI 0))).1 12 = nI 0 := n1
    have d5 : (uA t1 4 (upd (t1.2.2.1 4) (w + 5) (nI 0))).2.2.1 4 (w + 5) = nI 0 := by rw [uA_at, upd_at]
    have d0 : (uA t1 4 (upd (t1.2.2.1 4) (w + 5) (nI 0))).2.2.1 4 w = s.2.2.1 4 w := by rw [uA_at, upd_ne _ _ (by omega), f4.2.2]
    generalize uA t1 4 (upd (t1.2.2.1 4) (w + 5) (nI 0)) = t2 at *
    rcases p_lisland p1 n2 (rsW_blk (by omega) r1 hB) hw hr0 (by unfold nmR; rw [r1.2.2.2.1]; exact hn2) with ⟨x, t3, hx, g1, g2, g3, g4, g5⟩ | ⟨f, v, g1, g2, g3, g4⟩
    · rw [g1, ob_s, x_readIsland ha g2 (x_adv x (by omega) g3), ob_s, if_pos rfl, g_inT (by omega) (by omega), nI_clamp (by omega), thn_eq, if_pos (show nI 0 = (0 : Int32) from rfl)]
      rw [uI_uI] at g4 ⊢
      have r2 : rsW w s (uA t3 4 (upd (t3.2.2.1 4) (w + 1) (nI x))) := rsW_tr (rsW_tr r1 (rsW_nx g5)) (rsW_4 _ _ (by omega))
      have p2 := prR_4 g4 (upd (t3.2.2.1 4) (w + 1) (nI x))
      have n3 : (uA t3 4 (upd (t3.2.2.1 4) (w + 1) (nI x))).1 12 = nI 0 := show t3.1 12 = nI 0 from nx_12 g5 n2
      have e1 : (uA t3 4 (upd (t3.2.2.1 4) (w + 1) (nI x))).2.2.1 4 (w + 1) = nI x := by rw [uA_at, upd_at]
      have e0 : (uA t3 4 (upd (t3.2.2.1 4) (w + 1) (nI x))).2.2.1 4 w = s.2.2.1 4 w := by rw [uA_at, upd_ne _ _ (by omega), g5.2.2, d0]
      have e5 : (uA t3 4 (upd (t3.2.2.1 4) (w + 1) (nI x))).2.2.1 4 (w + 5) = nI 0 := by rw [uA_at, upd_ne _ _ (by omega), g5.2.2, d5]
      generalize uA t3 4 (upd (t3.2.2.1 4) (w + 1) (nI x)) = t4 at *
      rcases p_lchange p2 n3 (rsW_blk (by omega) r2 hB) hw hr1 (by unfold nmR; rw [r2.2.2.2.1]; exact hn) with ⟨y, t5, hy, k1, k2, k3, k4, k5⟩ | ⟨f, v, k1, k2, k3, k4⟩
      · left
        rw [k1, ob_s, x_readChange ha k2 (x_adv y (by omega) k3), ob_s, if_pos rfl, g_inT (by omega) (by omega), nI_clamp (by omega), thn_eq]
        rw [uI_uI] at k4 ⊢
        refine ⟨_, j + 1 + 1 + 1, _, rfl, rfl, prR_4 k4 _, show t5.1 12 = nI 0 from nx_12 k5 n3, rsW_tr (rsW_tr r2 (rsW_nx k5)) (rsW_4 _ _ (by omega)), ?_, lgS_tr (lgS_tr (lgS_u _ _ (by decide)) (lgS_u _ _ (by decide))) (lgS_u _ _ (by decide)), Or.inl ⟨x, y, hx, hy, ?_, ?_, ?_, ?_, ?_, ?_⟩⟩
        · rw [uA_at, upd_ne _ _ (by omega), k5.2.2, e0]
        · rw [uA_ne _ _ (by decide), uA_ne _ _ (by decide), uA_at, upd_at]
        · rw [uA_ne _ _ (by decide), uA_at, upd_at]
        · rw [uA_at, upd_at]
        · rw [uA_at, upd_ne _ _ (by omega), k5.2.2, e5]
        · rw [uA_at, upd_ne _ _ (by omega), k5.2.2, e1]
        · rw [uA_at, upd_at]
      · right
        rw [k3, ob_s, x_readChange ha k4 x_adv1, ob_s, if_neg Bool.false_ne_true, g_inT (by omega) (by omega), nI_clamp (by omega), thn_eq]
        exact ⟨f, _, j + 1 + 1, _, _, ⟨rfl, k1, k2⟩, rfl, rfl, rsW_tr (rsW_tr r2 (rsW_flt _)) (rsW_4 _ _ (by omega)), rfl⟩
    · right
      have hb : badR f (uA (fltR f (tsq b e (j + 1)) t2) 4 (upd ((fltR f (tsq b e (j + 1)) t2).2.2.1 4) (w + 1) v)) := ⟨rfl, g1, g2⟩
      rw [g3, ob_s, x_readIsland ha g4 x_adv1, ob_s, if_neg Bool.false_ne_true, g_inT (by omega) (by omega), nI_clamp (by omega), thn_eq, if_pos (show nI 0 = (0 : Int32) from rfl), lname_bad hb, ob_s, g_inT (by omega) (by omega), nI_clamp (by omega), thn_eq]
      exact ⟨f, tsq b e (j + 1), j + 1, _, _, ⟨rfl, g1, g2⟩, rfl, rfl, rsW_tr (rsW_tr (rsW_tr r1 (rsW_flt _)) (rsW_4 _ _ (by omega))) (rsW_4 _ _ (by omega)), rfl⟩
  · by_cases c21 : kJ tb b e j = 21
    · obtain ⟨t1, f1, f2, f3, f4⟩ := p_next h (by omega)
      have n1 := nx_12 f4 h12
      rw [decide_eq_false c20, if_neg Bool.false_ne_true, if_neg c20, decide_eq_true c21, if_pos rfl, if_pos c21, f2, ob_s, c21]
      unfold X12_readTest_j45
      rw [must_tr h12 f1, ob_s, ad5, g_inT (by omega) (by omega), nI_clamp (by omega), thn_eq, if_neg (show ¬ nI 1 = (2 : Int32) by decide), if_neg (show ¬ nI 1 < 0 by decide), nI_1]
      have r1 : rsW w s (uA t1 4 (upd (t1.2.2.1 4) (w + 5) (nI 1))) := rsW_tr (rsW_nx f4) (rsW_4 _ _ (by omega))
      have p1 := prR_4 f3 (upd (t1.2.2.1 4) (w + 5) (nI 1))
      have n2 : (uA t1 4 (upd (t1.2.2.1 4) (w + 5) (nI 1))).1 12 = nI 0 := n1
      have d5 : (uA t1 4 (upd (t1.2.2.1 4) (w + 5) (nI 1))).2.2.1 4 (w + 5) = nI 1 := by rw [uA_at, upd_at]
      have d0 : (uA t1 4 (upd (t1.2.2.1 4) (w + 5) (nI 1))).2.2.1 4 w = s.2.2.1 4 w := by rw [uA_at, upd_ne _ _ (by omega), f4.2.2]
      generalize uA t1 4 (upd (t1.2.2.1 4) (w + 5) (nI 1)) = t2 at *
      rcases p_lisland p1 n2 (rsW_blk (by omega) r1 hB) hw hr0 (by unfold nmR; rw [r1.2.2.2.1]; exact hn2) with ⟨x, t3, hx, g1, g2, g3, g4, g5⟩ | ⟨f, v, g1, g2, g3, g4⟩
      · left
        rw [g1, ob_s, x_readIsland ha g2 (x_adv x (by omega) g3), ob_s, g_inT (by omega) (by omega), nI_clamp (by omega), thn_eq, if_neg (show ¬ nI 1 = 0 by decide)]
        rw [uI_uI] at g4 ⊢
        refine ⟨_, j + 1 + 1, _, rfl, rfl, prR_4 g4 _, show t3.1 12 = nI 0 from nx_12 g5 n2, rsW_tr (rsW_tr r1 (rsW_nx g5)) (rsW_4 _ _ (by omega)), ?_, lgS_tr (lgS_u _ _ (by decide)) (lgS_u _ _ (by decide)), Or.inr (Or.inl ⟨x, hx, ?_, ?_, ?_, ?_⟩)⟩
        · rw [uA_at, upd_ne _ _ (by omega), g5.2.2, d0]
        · rw [uA_ne _ _ (by decide), uA_at, upd_at]
        · rw [uA_at, upd_at]
        · rw [uA_at, upd_ne _ _ (by omega), g5.2.2, d5]
        · rw [uA_at, upd_at]
      · right
        rw [g3, ob_s, x_readIsland ha g4 x_adv1, ob_s, g_inT (by omega) (by omega), nI_clamp (by omega), thn_eq, if_neg (show ¬ nI 1 = 0 by decide)]
        exact ⟨f, tsq b e (j + 1), j + 1, _, _, ⟨rfl, g1, g2⟩, rfl, rfl, rsW_tr (rsW_tr r1 (rsW_flt _)) (rsW_4 _ _ (by omega)), rfl⟩
    · by_cases c22 : kJ tb b e j = 22
      · obtain ⟨t1, f1, f2, f3, f4⟩ := p_next h (by omega)
        have n1 := nx_12 f4 h12
        rw [decide_eq_false c20, if_neg Bool.false_ne_true, if_neg c20, decide_eq_false c21, if_neg Bool.false_ne_true, if_neg c21, decide_eq_true c22, if_pos rfl, if_pos c22, f2, ob_s, c22]
        unfold X12_readTest_j45
        rw [must_tr h12 f1, ob_s, ad5, g_inT (by omega) (by omega), nI_clamp (by omega), thn_eq, if_pos (show nI 2 = (2 : Int32) from rfl)]
        have r1 : rsW w s (uA t1 4 (upd (t1.2.2.1 4) (w + 5) (nI 2))) := rsW_tr (rsW_nx f4) (rsW_4 _ _ (by omega))
        have p1 := prR_4 f3 (upd (t1.2.2.1 4) (w + 5) (nI 2))
        have n2 : (uA t1 4 (upd (t1.2.2.1 4) (w + 5) (nI 2))).1 12 = nI 0 := n1
        have d5 : (uA t1 4 (upd (t1.2.2.1 4) (w + 5) (nI 2))).2.2.1 4 (w + 5) = nI 2 := by rw [uA_at, upd_at]
        have d0 : (uA t1 4 (upd (t1.2.2.1 4) (w + 5) (nI 2))).2.2.1 4 w = s.2.2.1 4 w := by rw [uA_at, upd_ne _ _ (by omega), f4.2.2]
        generalize uA t1 4 (upd (t1.2.2.1 4) (w + 5) (nI 2)) = t2 at *
        rcases p_numb (s0 := s0) (r := r) (a := a) (lg := uA lg 2 (upd (lg.2.2.1 2) a (nI 22))) p1 n2 hw1 hw2 ha (lo := 0) (hi := 999) (by omega) (by omega) with ⟨v, s', v1, v2, g1, g2, g3, g4, g5, g6, g7⟩ | ⟨f, st, j', s', lg', g1, g2, g3, g4, g5⟩
        · left
          rw [g2, ob_s]
          rw [uI_uI] at g3 ⊢
          refine ⟨s', j + 1 + 1, _, g1, rfl, g3, g4, rsW_tr r1 g5, ?_, lgS_tr (lgS_u _ _ (by decide)) (lgS_u _ _ (by decide)), Or.inr (Or.inr ⟨v, v2, ?_, ?_, ?_, g7⟩)⟩
          · rw [g6 _ (by omega), d0]
          · rw [uA_ne _ _ (by decide), uA_at, upd_at]
          · rw [uA_at, upd_at]
          · rw [g6 _ (by omega), d5]
        · right
          rw [g5, ob_s, uI_uI]
          exact ⟨f, st, j', s', lg', g1, g2, g3, rsW_tr r1 g4, rfl⟩
      · right
        obtain ⟨w1, w2⟩ := p_wrong h h12
        rw [decide_eq_false c20, if_neg Bool.false_ne_true, if_neg c20, decide_eq_false c21, if_neg Bool.false_ne_true, if_neg c21, decide_eq_false c22, if_neg Bool.false_ne_true, if_neg c22, w2, ob_s]
        unfold X12_readTest_j34 X12_readTest_j45
        rw [m1_i, if_pos (show m1I < (0 : Int32) by decide), must_fl h h12, ob_s, ad5, g_inT (by omega) (by omega), nI_clamp (by omega), thn_eq, if_neg (show ¬ m1I = (2 : Int32) by decide), if_pos (show m1I < (0 : Int32) by decide)]
        by_cases c32 : kJ tb b e j = 32
        · rw [if_pos c32]
          exact ⟨1, tsq b e j, j, _, _, ⟨rfl, by omega, by omega⟩, rfl, rfl, rsW_tr (rsW_flt s) (rsW_4 _ _ (by omega)), by rw [q10]⟩
        · rw [if_neg c32]
          exact ⟨2, tsq b e j, j, _, _, ⟨rfl, by omega, by omega⟩, rfl, rfl, rsW_tr (rsW_flt s) (rsW_4 _ _ (by omega)), by rw [q10]⟩
end V
