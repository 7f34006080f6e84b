/-! BOOKS: names told and new, both ways -/
/-- what the reading of a book may change in the reference -/
def rsB (s s' : RS) : Prop := (∀ j, (j < 12 ∨ 18 < j) → s'.1 j = s.1 j) ∧ (∀ j, j ≠ 19 → s'.2.1 j = s.2.1 j) ∧ (∀ n, n ≠ 4 → s'.2.2.1 n = s.2.2.1 n) ∧ (∀ x, (x < 1440 ∨ 1554 ≤ x) → s'.2.2.1 4 x = s.2.2.1 4 x) ∧ (∀ n, n ≠ 5 → s'.2.2.2 n = s.2.2.2 n) ∧ ∀ x, x < 80 → s'.2.2.2 5 x = s.2.2.2 5 x
theorem rsB_rf (s : RS) : rsB s s := ⟨fun _ _ => rfl, fun _ _ => rfl, fun _ _ => rfl, fun _ _ => rfl, fun _ _ => rfl, fun _ _ => rfl⟩
theorem rsB_tr {a b c : RS} (h : rsB a b) (g : rsB b c) : rsB a c := ⟨fun j hj => (g.1 j hj).trans (h.1 j hj), fun j hj => (g.2.1 j hj).trans (h.2.1 j hj), fun n hn => (g.2.2.1 n hn).trans (h.2.2.1 n hn), fun x hx => (g.2.2.2.1 x hx).trans (h.2.2.2.1 x hx), fun n hn => (g.2.2.2.2.1 n hn).trans (h.2.2.2.2.1 n hn), fun x hx => (g.2.2.2.2.2 x hx).trans (h.2.2.2.2.2 x hx)⟩
theorem rsB_nx {s s' : RS} (h : nxS s s') : rsB s s' := ⟨fun j hj => h.1 j (by omega), h.2.1, fun n _ => by rw [h.2.2], fun x _ => by rw [h.2.2], fun n _ => by rw [h.2.2], fun x _ => by rw [h.2.2]⟩
theorem rsB_flt {f st : Nat} (s : RS) : rsB s (fltR f st s) := ⟨fun j hj => (if_neg (show ¬ j = 13 by omega)).trans (if_neg (show ¬ j = 12 by omega)), fun _ _ => rfl, fun _ _ => rfl, fun _ _ => rfl, fun _ _ => rfl, fun _ _ => rfl⟩
theorem rsB_4 {x : Nat} (s : RS) (v : Int32) (h : 1440 ≤ x ∧ x < 1554) : rsB s (uA s 4 (upd (s.2.2.1 4) x v)) := ⟨fun _ _ => rfl, fun _ _ => rfl, fun n hn => uA_ne _ _ hn, fun y hy => by rw [uA_at, upd_ne _ _ (by omega)], fun _ _ => rfl, fun _ _ => rfl⟩
theorem uB_ne (s : RS) {n k : Nat} (f : Nat → Int64) (h : k ≠ n) : (uB s n f).2.2.2 k = s.2.2.2 k := if_neg h
theorem rsB_5 {x : Nat} (s : RS) (v : Int64) (h : 80 ≤ x) : rsB s (uB s 5 (vp_updL (s.2.2.2 5) x v)) := ⟨fun _ _ => rfl, fun _ _ => rfl, fun n hn => rfl, fun y hy => rfl, fun n hn => uB_ne _ _ hn, fun y hy => by rw [uB_at, updL_ne _ _ (by omega)]⟩
section V
variable {s q r s0 : RS} {b : Nat → Nat} {e T j f st k m : Nat} {tb : Nat → Int64} {nm nmI : Nat → Nat}
theorem prR_5 (h : prR tb b e T j s q) (g : Nat → Int64) : prR tb b e T j (uB s 5 g) q := ⟨h.1, ⟨h.2.1.1, h.2.1.2.1, fun i hi => h.2.1.2.2 i hi⟩, h.2.2.1, h.2.2.2⟩
theorem told_bad (h : badR f s) : pX12_readTold s = some (nI 0, s) := by
  unfold pX12_readTold X12_readTold_j18 X12_readTold_j43
  rw [if_neg (bad_eq h), if_neg (bad_eq h), if_neg (bad_eq h)]; rfl
theorem p_told (h : prR tb b e T j s q) (h12 : s.1 12 = nI 0) (hc : s.2.2.1 4 1440 = nI k) (hk : k ≤ 16) (hr : r.1 1 = nI k) (hn : nmR 80 k nm (s.2.2.2 5) (r.2.2.2 3)) : (∃ x, x < k ∧ pX12_readTold s = some (nI x, s) ∧ pX8_changeHere q r = some (nI x, q) ∧ kJ tb b e j = 28) ∨ ∃ f a, 1 ≤ f ∧ f ≤ 7 ∧ pX12_readTold s = some (a, fltR f (tsq b e j) s) ∧ pX8_changeHere q r = some (m1I, fltX f (tsq b e j) q) := by
  have h10 := h.2.2.2.2.1
  have hj := h.2.2.2.2.2
  have l3 := h.2.2.2.1.2.2.1
  have he9 := h.2.2.2.1.2.2.2.1
  have jb : ∀ F, 1 ≤ F → F ≤ 7 → X12_readTold_j18 (fltR F (tsq b e j) s) = some (nI 0, fltR F (tsq b e j) s) := fun F h1 h2 => by
    have hb : badR F (fltR F (tsq b e j) s) := ⟨rfl, h1, h2⟩
    unfold X12_readTold_j18 X12_readTold_j43
    rw [if_neg (bad_eq hb), if_neg (bad_eq hb)]; rfl
  unfold pX12_readTold pX8_changeHere
  rw [h12, if_pos (show nI 0 = (0 : Int32) from rfl), r_isName h.1 he9 h.2.2.1, ob_s, x_isName h, ob_s, show decide (kR tb b e (tsq b e j) = 28) = decide (kJ tb b e j = 28) from rfl]
  by_cases c : kJ tb b e j = 28
  · obtain ⟨x, x1, x2, x3⟩ := p_word h c
    rw [decide_eq_true c, if_pos rfl, if_pos rfl, h10, g_inT (by omega) (by omega), nI_clamp (by omega), x3, x_findChange hr hk (fun i hi => ⟨(hn i hi).2.1, (hn i hi).2.2⟩) x1, ob_s]
    unfold X12_readTold_j18 X12_readTold_j43
    rw [h12, if_pos (show nI 0 = (0 : Int32) from rfl), show (1440 : Int32) = nI 1440 from rfl, g_inT (by omega) (by omega), nI_clamp (by omega), hc, show (4 : Int32) = nI 4 from rfl, show (0 : Int32) = nI 0 from rfl, r_named (i := 4) (t := 0) (by omega) (fun i hi => ⟨(hn i hi).1, (hn i hi).2.2⟩) x1 x2, ob_s, if_pos rfl]
    rcases fdN_c nm x k with ⟨g1, _⟩ | ⟨i, g1, _, g2⟩
    · right
      obtain ⟨F1, F2⟩ := p_fail h h12 3
      refine ⟨3, m1I, by omega, by omega, ?_, ?_⟩
      · rw [g1, if_neg (show ¬ nI 0 ≤ m1I by decide), show (3 : Int32) = nI 3 from rfl, F1, ob_s]
      · rw [g1, if_pos (show m1I = (-1 : Int32) from rfl), show (3 : Int32) = nI 3 from rfl, F2, ob_s]
    · left
      refine ⟨i, g1, ?_, ?_, c⟩
      · rw [g2, if_pos (nI_le (by omega) (by omega))]
      · rw [g2, if_neg (show ¬ nI i = (-1 : Int32) by rw [show (-1 : Int32) = m1I from rfl, m1_ne (by omega)]; exact id)]
  · right
    obtain ⟨w1, w2⟩ := p_wrong h h12
    rw [decide_eq_false c, if_neg (by decide), if_neg (by decide), w1, w2, ob_s, ob_s]
    by_cases c32 : kJ tb b e j = 32
    · rw [if_pos c32]; exact ⟨1, nI 0, by omega, by omega, jb 1 (by omega) (by omega), rfl⟩
    · rw [if_neg c32]; exact ⟨2, nI 0, by omega, by omega, jb 2 (by omega) (by omega), rfl⟩
/-- a new name -/
theorem p_new (h : prR tb b e T j s q) (hJ : kJ tb b e j ≠ 33) (h12 : s.1 12 = nI 0) (hc : s.2.2.1 4 1440 = nI k) (hc1 : s.2.2.1 4 1441 = nI m) (hk : k ≤ 16) (hm : m ≤ 4) (hr : r.1 1 = nI k) (hr0 : r.1 0 = nI m) (hn : nmR 80 k nm (s.2.2.2 5) (r.2.2.2 3)) (hn2 : nmR 96 m nmI (s.2.2.2 5) (r.2.2.2 2)) {fi ma : Nat} (hf : fi + ma < 20) : (∃ x s', nok x ∧ pX12_readNew s (nI fi) (nI ma) = some s' ∧ pX1_isNewName s0 (uI q 10 (nI (j + 1))) r = some (true, uI q 10 (nI (j + 1))) ∧ pX8_nameHere (uI q 10 (nI (j + 1))) = some (lN x) ∧ pX8_advance (uI q 10 (nI (j + 1))) = some (uI q 10 (nI (j + 1 + 1))) ∧ prR tb b e T (j + 1 + 1) s' (uI q 10 (nI (j + 1 + 1))) ∧ s'.1 12 = nI 0 ∧ rsB s s' ∧ s'.2.2.1 = s.2.2.1 ∧ s'.2.2.2 5 = vp_updL (s.2.2.2 5) (80 + fi + ma) (lN (cv 8 x))) ∨ ∃ f s', badR f s' ∧ s'.1 13 = nI (tsq b e (j + 1)) ∧ pX12_readNew s (nI fi) (nI ma) = some s' ∧ rsB s s' ∧ pX1_isNewName s0 (uI q 10 (nI (j + 1))) r = some (false, fltX f (tsq b e (j + 1)) (uI q 10 (nI (j + 1)))) := by
  obtain ⟨t, f1, f2, f3, f4⟩ := p_next h hJ
  have n12 := nx_12 f4 h12
  have h10 := f3.2.2.2.2.1
  have hj := f3.2.2.2.2.2
  have l3 := f3.2.2.2.1.2.2.1
  have he9 := f3.2.2.2.1.2.2.2.1
  have hct : t.2.2.1 4 1440 = nI k := by rw [f4.2.2]; exact hc
  have hct1 : t.2.2.1 4 1441 = nI m := by rw [f4.2.2]; exact hc1
  have hnt : nmR 80 k nm (t.2.2.2 5) (r.2.2.2 3) := by rw [f4.2.2]; exact hn
  have hnt2 : nmR 96 m nmI (t.2.2.2 5) (r.2.2.2 2) := by rw [f4.2.2]; exact hn2
  have j66 : ∀ F st, 1 ≤ F → F ≤ 7 → X12_readNew_j66 (nI fi) (nI ma) (fltR F st t) = some (fltR F st t) := fun F st h1 h2 => by
    have hb : badR F (fltR F st t) := ⟨rfl, h1, h2⟩
    unfold X12_readNew_j66
    rw [if_neg (bad_le hb)]
  unfold pX12_readNew pX1_isNewName
  rw [f1, ob_s, r_isName f3.1 he9 f3.2.2.1, ob_s, x_isName f3, ob_s, show decide (kR tb b e (tsq b e (j + 1)) = 28) = decide (kJ tb b e (j + 1) = 28) from rfl]
  by_cases c : kJ tb b e (j + 1) = 28
  · obtain ⟨x, x1, x2, x3⟩ := p_word f3 c
    have nh : pX8_nameHere (uI q 10 (nI (j + 1))) = some (lN x) := by
      unfold pX8_nameHere
      rw [h10, g_inT (by omega) (by omega), nI_clamp (by omega), x3]
    rw [decide_eq_true c, if_pos rfl, if_pos rfl, nh, ob_s, x_findIsland hr0 hm (fun i hi => ⟨(hnt2 i hi).2.1, (hnt2 i hi).2.2⟩) x1, ob_s, x_findChange hr hk (fun i hi => ⟨(hnt i hi).2.1, (hnt i hi).2.2⟩) x1, ob_s]
    unfold X12_readNew_j15
    rw [n12, if_pos (show nI 0 = (0 : Int32) from rfl), show (1440 : Int32) = nI 1440 from rfl, show (1441 : Int32) = nI 1441 from rfl, g_inT (by omega) (by omega), g_inT (by omega) (by omega), nI_clamp (by omega), nI_clamp (by omega), hct, hct1, show (4 : Int32) = nI 4 from rfl, show (16 : Int32) = nI 16 from rfl, show (0 : Int32) = nI 0 from rfl, r_named (i := 4) (t := 0) (by omega) (fun i hi => ⟨(hnt i hi).1, (hnt i hi).2.2⟩) x1 x2, ob_s, r_named (i := 4) (t := 16) (by omega) (fun i hi => ⟨(hnt2 i hi).1, (hnt2 i hi).2.2⟩) x1 x2, ob_s]
    obtain ⟨F1, F2⟩ := p_fail f3 n12 3
    have taken : X12_readNew_j57 (nI fi) (nI ma) t = some (fltR 3 (tsq b e (j + 1)) t) ∧ X1_isNewName_j50 s0 (uI q 10 (nI (j + 1))) r = some (false, fltX 3 (tsq b e (j + 1)) (uI q 10 (nI (j + 1)))) := by
      constructor
      · unfold X12_readNew_j57
        rw [show (3 : Int32) = nI 3 from rfl, F1, ob_s, j66 3 _ (by omega) (by omega)]
      · unfold X1_isNewName_j50 X1_isNewName_j55
        rw [if_pos rfl, show (3 : Int32) = nI 3 from rfl, F2, ob_s, if_neg Bool.false_ne_true]
    have bad : ∃ f s', badR f s' ∧ s'.1 13 = nI (tsq b e (j + 1)) ∧ some (fltR 3 (tsq b e (j + 1)) t) = some s' ∧ rsB s s' ∧ some (false, fltX 3 (tsq b e (j + 1)) (uI q 10 (nI (j + 1)))) = some (false, fltX f (tsq b e (j + 1)) (uI q 10 (nI (j + 1)))) := ⟨3, _, ⟨rfl, by omega, by omega⟩, rfl, rfl, rsB_tr (rsB_nx f4) (rsB_flt _), rfl⟩
    rcases fdN_c nm x k with ⟨g1, _⟩ | ⟨i, g1, _, g2⟩
    · rw [g1, if_neg (show ¬ nI 0 ≤ m1I by decide)]
      rcases fdN_c nmI x m with ⟨k1, _⟩ | ⟨i, k1, _, k2⟩
      · left
        rw [k1, if_pos (show m1I < nI 0 by decide), if_pos (show m1I = (-1 : Int32) from rfl), if_pos (show m1I = (-1 : Int32) from rfl)]
        have hp := prR_5 f3 (vp_updL (t.2.2.2 5) (80 + fi + ma) (lN (cv 8 x)))
        obtain ⟨u, y1, y2, y3, y4⟩ := p_next hp (by omega)
        rw [uI_uI] at y2 y3
        refine ⟨x, u, x1, ?_, ?_, rfl, y2, y3, nx_12 y4 n12, rsB_tr (rsB_tr (rsB_nx f4) (rsB_5 t (lN (cv 8 x)) (x := 80 + fi + ma) (by omega))) (rsB_nx y4), ?_, ?_⟩
        · unfold X12_readNew_j66
          rw [n12, if_pos (show nI 0 ≤ (0 : Int32) by decide), show (80 : Int32) = nI 80 from rfl, nI_add, nI_add, g_inT (by omega) (by omega), nI_clamp (by omega), x2, thn_eq, y1, ob_s]
        · unfold X1_isNewName_j55
          rw [if_neg Bool.false_ne_true]
        · rw [y4.2.2]
          show t.2.2.1 = _
          rw [f4.2.2]
        · rw [y4.2.2]
          show (uB t 5 (vp_updL (t.2.2.2 5) (80 + fi + ma) (lN (cv 8 x)))).2.2.2 5 = _
          rw [uB_at, f4.2.2]
      · right
        rw [k2, if_neg (nI_nlt (a := i) (b := 0) (by omega) (by omega)), if_neg (show ¬ nI i = (-1 : Int32) by rw [show (-1 : Int32) = m1I from rfl, m1_ne (by omega)]; exact id), taken.1, taken.2]
        exact bad
    · right
      rw [g2, if_pos (nI_le (by omega) (by omega)), if_neg (show ¬ nI i = (-1 : Int32) by rw [show (-1 : Int32) = m1I from rfl, m1_ne (by omega)]; exact id), taken.1, taken.2]
      rcases fdN_c nmI x m with ⟨k1, _⟩ | ⟨i, k1, _, k2⟩
      · rw [k1, if_pos (show m1I = (-1 : Int32) from rfl)]; exact bad
      · rw [k2, if_neg (show ¬ nI i = (-1 : Int32) by rw [show (-1 : Int32) = m1I from rfl, m1_ne (by omega)]; exact id)]; exact bad
  · right
    obtain ⟨w1, w2⟩ := p_wrong f3 n12
    rw [decide_eq_false c, if_neg (by decide), if_neg (by decide), w1, w2, ob_s, ob_s]
    have j15 : ∀ F, 1 ≤ F → F ≤ 7 → X12_readNew_j15 (nI fi) (nI ma) (fltR F (tsq b e (j + 1)) t) = some (fltR F (tsq b e (j + 1)) t) := fun F h1 h2 => by
      have hb : badR F (fltR F (tsq b e (j + 1)) t) := ⟨rfl, h1, h2⟩
      unfold X12_readNew_j15
      rw [if_neg (bad_eq hb), j66 F _ h1 h2]
    by_cases c32 : kJ tb b e (j + 1) = 32
    · rw [if_pos c32, j15 1 (by omega) (by omega)]; exact ⟨1, _, ⟨rfl, by omega, by omega⟩, rfl, rfl, rsB_tr (rsB_nx f4) (rsB_flt _), rfl⟩
    · rw [if_neg c32, j15 2 (by omega) (by omega)]; exact ⟨2, _, ⟨rfl, by omega, by omega⟩, rfl, rfl, rsB_tr (rsB_nx f4) (rsB_flt _), rfl⟩
end V
