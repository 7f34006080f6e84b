/-! TEXTS: a STEP's body, both ways -/
/-- the word of a STEP in the class, its kind in the reference -/
def wkP (wd kd : Nat) : Prop := (wd = 11 ∧ kd = 0) ∨ (wd = 13 ∧ kd = 1) ∨ (wd = 17 ∧ kd = 2) ∨ (wd = 18 ∧ kd = 3) ∨ (wd = 24 ∧ kd = 4) ∨ (wd = 23 ∧ kd = 5) ∨ (wd = 19 ∧ kd = 6) ∨ (wd = 25 ∧ kd = 7) ∨ (wd = 27 ∧ kd = 8)
/-- a STEP that is read: row a of the LOG, step k of c -/
def enR (B : Nat → Nat) (lg : RS) (c : Nat → Int32) (a k kd : Nat) : Prop := if kd = 6 then opW B lg c a k else if kd = 7 then opL lg c a k else smR B lg c a k
section V
variable {s q r lg s0 : RS} {b : Nat → Nat} {e T j f st w a k wd kd : Nat} {tb : Nat → Int64} {nm nmI : Nat → Nat} {B : Nat → Nat}
theorem p_body (h : prR tb b e T j s q) (h12 : s.1 12 = nI 0) (hB : blk (s.2.2.1 4) 0 B) (hw : wfB B) (hr1 : r.1 1 = nI (B 0)) (hr0 : r.1 0 = nI (B 1)) (hn : nmR 0 (B 0) nm (s.2.2.2 5) (r.2.2.2 3)) (hn2 : nmR 16 (B 1) nmI (s.2.2.2 5) (r.2.2.2 2)) (hk : k < 30) (hwk : w = 1440 + (137 + 7 * k)) (ha : a < 60) (hp : wkP wd kd) (c0 : s.2.2.1 4 w = nI kd) (l2 : lg.2.2.1 2 a = nI wd) (l5 : lg.2.2.1 5 a = nI 0) (l6 : lg.2.2.1 6 a = nI 0) : (∃ s' j' lg', pX12_readRest s (nI w) = some s' ∧ pX4_readBody s0 q r lg (nI a) (nI wd) = some (true, uI q 10 (nI j'), lg') ∧ prR tb b e T j' s' (uI q 10 (nI j')) ∧ s'.1 12 = nI 0 ∧ rsW w s s' ∧ lgS a lg lg' ∧ enR B lg' (fun x => s'.2.2.1 4 (1440 + x)) a k kd) ∨ bothF w s q (pX12_readRest s (nI w)) (pX4_readBody s0 q r lg (nI a) (nI wd)) := by
  have q10 : uI q 10 (nI j) = q := by rw [← h.2.2.2.2.1, uI_self]
  have hw1 : 1440 ≤ w := by omega
  have hw2 : w + 7 ≤ 1800 := by omega
  have cw : ∀ (t : RS) (i : Nat), t.2.2.1 4 (1440 + (137 + 7 * k + i)) = t.2.2.1 4 (w + i) := fun t i => by rw [show 1440 + (137 + 7 * k + i) = w + i by omega]
  have cw0 : ∀ t : RS, t.2.2.1 4 (1440 + (137 + 7 * k)) = t.2.2.1 4 w := fun t => by rw [hwk]
  unfold pX12_readRest pX4_readBody
  rw [g_inT (by omega) (by omega), nI_clamp (by omega), thn_eq, c0]
  rcases hp with ⟨rfl, rfl⟩ | ⟨rfl, rfl⟩ | ⟨rfl, rfl⟩ | ⟨rfl, rfl⟩ | ⟨rfl, rfl⟩ | ⟨rfl, rfl⟩ | ⟨rfl, rfl⟩ | ⟨rfl, rfl⟩ | ⟨rfl, rfl⟩
  · rw [if_pos (show nI 0 = (0 : Int32) from rfl), if_pos (show nI 11 = (11 : Int32) from rfl)]
    rcases p_at (s0 := s0) (lg := lg) h h12 hB hw hr1 hr0 hn hn2 hw1 hw2 ha with ⟨x, i, s', j', hx, hi, f1, f2, f3, f4, f5, f6, f7, f8⟩ | hf
    · left
      refine ⟨s', j', _, f1, f2, f3, f4, f5, lgS_tr (lgS_u _ _ (by decide)) (lgS_u _ _ (by decide)), ?_⟩
      unfold enR
      rw [if_neg (by decide), if_neg (by decide)]
      refine Or.inl ⟨0, x, i, by decide, hx, hi, ?_, ?_, ?_, (cw0 s').trans (f6.trans c0), (cw s' 1).trans f7, (cw s' 2).trans f8⟩
      · rw [uA_ne _ _ (by decide), uA_ne _ _ (by decide), l2]; rfl
      · rw [uA_at, upd_at]
      · rw [uA_ne _ _ (by decide), uA_at, upd_at]
    · exact Or.inr hf
  · rw [if_neg (show ¬ nI 1 = (0 : Int32) by decide), if_neg (show ¬ nI 1 = (2 : Int32) by decide), if_neg (show ¬ nI 1 = (3 : Int32) by decide), if_pos (show nI 1 = (1 : Int32) from rfl), if_neg (show ¬ nI 13 = (11 : Int32) by decide), if_neg (show ¬ nI 13 = (12 : Int32) by decide), if_pos (show nI 13 = (13 : Int32) from rfl)]
    rcases p_ship (s0 := s0) (lg := lg) h h12 hB hw hr0 hn2 hw1 hw2 ha l5 l6 rfl with ⟨x, y, d, tw, s', j', lg', hx, hy, hd, htw, f1, f2, f3, f4, f5, f6, ⟨c1, c2, c3, c4⟩, ⟨m3, m4, m5, m6⟩, g1, g2, g3⟩ | ⟨f, st, j', s', lg', g1, g2, g3, g4, g5⟩
    · left
      refine ⟨s', j', lg', by rw [f1, ob_s], f2, f3, f4, f5, ⟨g3, g1 7 (by decide) (by decide) (by decide) (by decide), fun n i hi => ?_⟩, ?_⟩
      · obtain ⟨y3, y4, y5, y6⟩ := g2 i hi
        by_cases n3 : n = 3
        · rw [n3]; exact y3
        · by_cases n4 : n = 4
          · rw [n4]; exact y4
          · by_cases n5 : n = 5
            · rw [n5]; exact y5
            · by_cases n6 : n = 6
              · rw [n6]; exact y6
              · rw [g1 n n3 n4 n5 n6]
      · unfold enR
        rw [if_neg (by decide), if_neg (by decide)]
        refine Or.inr (Or.inl ⟨x, y, d, tw, hx, hy, hd, htw, ?_, m3, m4, m5, m6, (cw0 s').trans (f6.trans c0), (cw s' 1).trans c1, (cw s' 2).trans c2, (cw s' 3).trans c3, (cw s' 4).trans c4⟩)
        rw [g1 2 (by decide) (by decide) (by decide) (by decide), l2]
    · right
      exact ⟨f, st, j', s', lg', g1, g2, by rw [g3, ob_s], g4, g5⟩
  · rw [if_neg (show ¬ nI 2 = (0 : Int32) by decide), if_pos (show nI 2 = (2 : Int32) from rfl), if_neg (show ¬ nI 17 = (11 : Int32) by decide), if_neg (show ¬ nI 17 = (12 : Int32) by decide), if_neg (show ¬ nI 17 = (13 : Int32) by decide), if_neg (show ¬ nI 17 = (14 : Int32) by decide), if_neg (show ¬ nI 17 = (15 : Int32) by decide), if_neg (show ¬ nI 17 = (16 : Int32) by decide), if_pos (show nI 17 = (17 : Int32) from rfl)]
    rcases p_at (s0 := s0) (lg := lg) h h12 hB hw hr1 hr0 hn hn2 hw1 hw2 ha with ⟨x, i, s', j', hx, hi, f1, f2, f3, f4, f5, f6, f7, f8⟩ | hf
    · left
      refine ⟨s', j', _, f1, f2, f3, f4, f5, lgS_tr (lgS_u _ _ (by decide)) (lgS_u _ _ (by decide)), ?_⟩
      unfold enR
      rw [if_neg (by decide), if_neg (by decide)]
      refine Or.inl ⟨2, x, i, by decide, hx, hi, ?_, ?_, ?_, (cw0 s').trans (f6.trans c0), (cw s' 1).trans f7, (cw s' 2).trans f8⟩
      · rw [uA_ne _ _ (by decide), uA_ne _ _ (by decide), l2]; rfl
      · rw [uA_at, upd_at]
      · rw [uA_ne _ _ (by decide), uA_at, upd_at]
    · exact Or.inr hf
  · rw [if_neg (show ¬ nI 3 = (0 : Int32) by decide), if_neg (show ¬ nI 3 = (2 : Int32) by decide), if_pos (show nI 3 = (3 : Int32) from rfl), if_neg (show ¬ nI 18 = (11 : Int32) by decide), if_neg (show ¬ nI 18 = (12 : Int32) by decide), if_neg (show ¬ nI 18 = (13 : Int32) by decide), if_neg (show ¬ nI 18 = (14 : Int32) by decide), if_neg (show ¬ nI 18 = (15 : Int32) by decide), if_neg (show ¬ nI 18 = (16 : Int32) by decide), if_neg (show ¬ nI 18 = (17 : Int32) by decide), if_pos (show nI 18 = (18 : Int32) from rfl)]
    rcases p_at (s0 := s0) (lg := lg) h h12 hB hw hr1 hr0 hn hn2 hw1 hw2 ha with ⟨x, i, s', j', hx, hi, f1, f2, f3, f4, f5, f6, f7, f8⟩ | hf
    · left
      refine ⟨s', j', _, f1, f2, f3, f4, f5, lgS_tr (lgS_u _ _ (by decide)) (lgS_u _ _ (by decide)), ?_⟩
      unfold enR
      rw [if_neg (by decide), if_neg (by decide)]
      refine Or.inl ⟨3, x, i, by decide, hx, hi, ?_, ?_, ?_, (cw0 s').trans (f6.trans c0), (cw s' 1).trans f7, (cw s' 2).trans f8⟩
      · rw [uA_ne _ _ (by decide), uA_ne _ _ (by decide), l2]; rfl
      · rw [uA_at, upd_at]
      · rw [uA_ne _ _ (by decide), uA_at, upd_at]
    · exact Or.inr hf
  · rw [if_neg (show ¬ nI 4 = (0 : Int32) by decide), if_neg (show ¬ nI 4 = (2 : Int32) by decide), if_neg (show ¬ nI 4 = (3 : Int32) by decide), if_neg (show ¬ nI 4 = (1 : Int32) by decide), if_pos (show nI 4 = (4 : Int32) from rfl), if_neg (show ¬ nI 24 = (11 : Int32) by decide), if_neg (show ¬ nI 24 = (12 : Int32) by decide), if_neg (show ¬ nI 24 = (13 : Int32) by decide), if_neg (show ¬ nI 24 = (14 : Int32) by decide), if_neg (show ¬ nI 24 = (15 : Int32) by decide), if_neg (show ¬ nI 24 = (16 : Int32) by decide), if_neg (show ¬ nI 24 = (17 : Int32) by decide), if_neg (show ¬ nI 24 = (18 : Int32) by decide), if_neg (show ¬ nI 24 = (19 : Int32) by decide), if_neg (show ¬ nI 24 = (20 : Int32) by decide), if_neg (show ¬ nI 24 = (21 : Int32) by decide), if_neg (show ¬ nI 24 = (22 : Int32) by decide), if_neg (show ¬ nI 24 = (23 : Int32) by decide), if_pos (show nI 24 = (24 : Int32) from rfl)]
    unfold X12_readRest_j82 X4_readBody_j152
    rw [show (1 : Int32) = nI 1 from rfl, show (99 : Int32) = nI 99 from rfl]
    rcases p_numb (s0 := s0) (r := r) (lg := lg) h h12 hw1 hw2 ha (lo := 1) (hi := 99) (by omega) (by omega) with ⟨v, s', v1, v2, g1, g2, g3, g4, g5, g6, g7⟩ | ⟨f, st, j', s', lg', g1, g2, g3, g4, g5⟩
    · left
      refine ⟨s', j + 1, _, g1, by rw [g2, ob_s], g3, g4, g5, lgS_u _ _ (by decide), ?_⟩
      unfold enR
      rw [if_neg (by decide), if_neg (by decide)]
      refine Or.inr (Or.inr (Or.inl ⟨v, v1, v2, ?_, ?_, (cw0 s').trans ((g6 w (by omega)).trans c0), (cw s' 1).trans g7⟩))
      · rw [uA_ne _ _ (by decide), l2]
      · rw [uA_at, upd_at]
    · right
      exact ⟨f, st, j', s', lg', g1, g2, g3, g4, by rw [g5, ob_s]⟩
  · rw [if_neg (show ¬ nI 5 = (0 : Int32) by decide), if_neg (show ¬ nI 5 = (2 : Int32) by decide), if_neg (show ¬ nI 5 = (3 : Int32) by decide), if_neg (show ¬ nI 5 = (1 : Int32) by decide), if_neg (show ¬ nI 5 = (4 : Int32) by decide), if_neg (show ¬ nI 5 = (7 : Int32) by decide), if_pos (show nI 5 = (5 : Int32) from rfl), if_neg (show ¬ nI 23 = (11 : Int32) by decide), if_neg (show ¬ nI 23 = (12 : Int32) by decide), if_neg (show ¬ nI 23 = (13 : Int32) by decide), if_neg (show ¬ nI 23 = (14 : Int32) by decide), if_neg (show ¬ nI 23 = (15 : Int32) by decide), if_neg (show ¬ nI 23 = (16 : Int32) by decide), if_neg (show ¬ nI 23 = (17 : Int32) by decide), if_neg (show ¬ nI 23 = (18 : Int32) by decide), if_neg (show ¬ nI 23 = (19 : Int32) by decide), if_neg (show ¬ nI 23 = (20 : Int32) by decide), if_neg (show ¬ nI 23 = (21 : Int32) by decide), if_neg (show ¬ nI 23 = (22 : Int32) by decide), if_pos (show nI 23 = (23 : Int32) from rfl)]
    rw [show (0 : Int32) = nI 0 from rfl, show (16 : Int32) = nI 16 from rfl]
    rcases p_numb (s0 := s0) (r := r) (lg := lg) h h12 hw1 hw2 ha (lo := 0) (hi := 16) (by omega) (by omega) with ⟨v, s', v1, v2, g1, g2, g3, g4, g5, g6, g7⟩ | ⟨f, st, j', s', lg', g1, g2, g3, g4, g5⟩
    · left
      refine ⟨s', j + 1, _, g1, by rw [g2, ob_s], g3, g4, g5, lgS_u _ _ (by decide), ?_⟩
      unfold enR
      rw [if_neg (by decide), if_neg (by decide)]
      refine Or.inr (Or.inr (Or.inr (Or.inl ⟨v, v2, ?_, ?_, (cw0 s').trans ((g6 w (by omega)).trans c0), (cw s' 1).trans g7⟩)))
      · rw [uA_ne _ _ (by decide), l2]
      · rw [uA_at, upd_at]
    · right
      exact ⟨f, st, j', s', lg', g1, g2, g3, g4, by rw [g5, ob_s]⟩
  · rw [if_neg (show ¬ nI 6 = (0 : Int32) by decide), if_neg (show ¬ nI 6 = (2 : Int32) by decide), if_neg (show ¬ nI 6 = (3 : Int32) by decide), if_neg (show ¬ nI 6 = (1 : Int32) by decide), if_neg (show ¬ nI 6 = (4 : Int32) by decide), if_neg (show ¬ nI 6 = (7 : Int32) by decide), if_neg (show ¬ nI 6 = (5 : Int32) by decide), if_pos (show nI 6 = (6 : Int32) from rfl), if_neg (show ¬ nI 19 = (11 : Int32) by decide), if_neg (show ¬ nI 19 = (12 : Int32) by decide), if_neg (show ¬ nI 19 = (13 : Int32) by decide), if_neg (show ¬ nI 19 = (14 : Int32) by decide), if_neg (show ¬ nI 19 = (15 : Int32) by decide), if_neg (show ¬ nI 19 = (16 : Int32) by decide), if_neg (show ¬ nI 19 = (17 : Int32) by decide), if_neg (show ¬ nI 19 = (18 : Int32) by decide), if_pos (show nI 19 = (19 : Int32) from rfl)]
    rcases p_test (s0 := s0) (lg := lg) h h12 hB hw hr1 hr0 hn hn2 hw1 hw2 ha with ⟨s', j', lg', f1, f2, f3, f4, f5, f6, f7, f8⟩ | ⟨f, st, j', s', lg', g1, g2, g3, g4, g5⟩
    · left
      refine ⟨s', j', lg', by rw [f1, ob_s], by rw [f2, ob_s], f3, f4, f5, f7, ?_⟩
      unfold enR
      rw [if_pos rfl]
      refine ⟨(cw0 s').trans (f6.trans c0), ?_⟩
      rcases f8 with ⟨x, y, x1, y1, k1, k2, k3, k4, k5, k6⟩ | ⟨x, x1, k1, k2, k3, k4⟩ | ⟨n, n1, k1, k2, k3, k4⟩
      · exact Or.inl ⟨x, y, x1, y1, k1, k2, k3, (cw s' 5).trans k4, (cw s' 1).trans k5, (cw s' 2).trans k6⟩
      · exact Or.inr (Or.inl ⟨x, x1, k1, k2, (cw s' 5).trans k3, (cw s' 1).trans k4⟩)
      · exact Or.inr (Or.inr ⟨n, n1, k1, k2, (cw s' 5).trans k3, (cw s' 1).trans k4⟩)
    · right
      exact ⟨f, st, j', s', lg', g1, g2, by rw [g3, ob_s], g4, by rw [g5, ob_s]⟩
  · rw [if_neg (show ¬ nI 7 = (0 : Int32) by decide), if_neg (show ¬ nI 7 = (2 : Int32) by decide), if_neg (show ¬ nI 7 = (3 : Int32) by decide), if_neg (show ¬ nI 7 = (1 : Int32) by decide), if_neg (show ¬ nI 7 = (4 : Int32) by decide), if_pos (show nI 7 = (7 : Int32) from rfl), if_neg (show ¬ nI 25 = (11 : Int32) by decide), if_neg (show ¬ nI 25 = (12 : Int32) by decide), if_neg (show ¬ nI 25 = (13 : Int32) by decide), if_neg (show ¬ nI 25 = (14 : Int32) by decide), if_neg (show ¬ nI 25 = (15 : Int32) by decide), if_neg (show ¬ nI 25 = (16 : Int32) by decide), if_neg (show ¬ nI 25 = (17 : Int32) by decide), if_neg (show ¬ nI 25 = (18 : Int32) by decide), if_neg (show ¬ nI 25 = (19 : Int32) by decide), if_neg (show ¬ nI 25 = (20 : Int32) by decide), if_neg (show ¬ nI 25 = (21 : Int32) by decide), if_neg (show ¬ nI 25 = (22 : Int32) by decide), if_neg (show ¬ nI 25 = (23 : Int32) by decide), if_neg (show ¬ nI 25 = (24 : Int32) by decide), if_pos (show nI 25 = (25 : Int32) from rfl)]
    unfold X12_readRest_j82 X4_readBody_j152
    rw [show (1 : Int32) = nI 1 from rfl, show (99 : Int32) = nI 99 from rfl]
    rcases p_numb (s0 := s0) (r := r) (lg := lg) h h12 hw1 hw2 ha (lo := 1) (hi := 99) (by omega) (by omega) with ⟨v, s', v1, v2, g1, g2, g3, g4, g5, g6, g7⟩ | ⟨f, st, j', s', lg', g1, g2, g3, g4, g5⟩
    · left
      refine ⟨s', j + 1, _, g1, by rw [g2, ob_s], g3, g4, g5, lgS_u _ _ (by decide), ?_⟩
      unfold enR
      rw [if_neg (by decide), if_pos rfl]
      refine ⟨v, v1, v2, ?_, ?_, (cw0 s').trans ((g6 w (by omega)).trans c0), (cw s' 1).trans g7⟩
      · rw [uA_ne _ _ (by decide), l2]
      · rw [uA_at, upd_at]
    · right
      exact ⟨f, st, j', s', lg', g1, g2, g3, g4, by rw [g5, ob_s]⟩
  · rw [if_neg (show ¬ nI 8 = (0 : Int32) by decide), if_neg (show ¬ nI 8 = (2 : Int32) by decide), if_neg (show ¬ nI 8 = (3 : Int32) by decide), if_neg (show ¬ nI 8 = (1 : Int32) by decide), if_neg (show ¬ nI 8 = (4 : Int32) by decide), if_neg (show ¬ nI 8 = (7 : Int32) by decide), if_neg (show ¬ nI 8 = (5 : Int32) by decide), if_neg (show ¬ nI 8 = (6 : Int32) by decide), if_neg (show ¬ nI 27 = (11 : Int32) by decide), if_neg (show ¬ nI 27 = (12 : Int32) by decide), if_neg (show ¬ nI 27 = (13 : Int32) by decide), if_neg (show ¬ nI 27 = (14 : Int32) by decide), if_neg (show ¬ nI 27 = (15 : Int32) by decide), if_neg (show ¬ nI 27 = (16 : Int32) by decide), if_neg (show ¬ nI 27 = (17 : Int32) by decide), if_neg (show ¬ nI 27 = (18 : Int32) by decide), if_neg (show ¬ nI 27 = (19 : Int32) by decide), if_neg (show ¬ nI 27 = (20 : Int32) by decide), if_neg (show ¬ nI 27 = (21 : Int32) by decide), if_neg (show ¬ nI 27 = (22 : Int32) by decide), if_neg (show ¬ nI 27 = (23 : Int32) by decide), if_neg (show ¬ nI 27 = (24 : Int32) by decide), if_neg (show ¬ nI 27 = (25 : Int32) by decide)]
    left
    refine ⟨s, j, lg, rfl, by rw [q10], by rw [q10]; exact h, h12, rsW_rf w s, lgS_rf a lg, ?_⟩
    unfold enR
    rw [if_neg (by decide), if_neg (by decide)]
    exact Or.inr (Or.inr (Or.inr (Or.inr ⟨l2, (cw0 s).trans c0⟩)))
end V
