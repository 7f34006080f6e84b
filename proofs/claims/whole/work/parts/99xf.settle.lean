/-! BOOKS: SETTLE, both ways -/
section V
variable {s q r s0 : RS} {b : Nat → Nat} {e T j f st k : Nat} {tb : Nat → Int64} {nm : Nat → Nat} {B Bc : Nat → Nat}
theorem is_not (s : RS) : ∃ t, pX12_isNot s = some t := by
  unfold pX12_isNot
  rw [sp_9, ob_s]
  unfold pX12_isWord
  by_cases c1 : s.1 14 = (1 : Int32)
  · rw [if_pos c1]
    by_cases c2 : s.2.1 19 = lN (kw32 9)
    · rw [if_pos c2]; exact ⟨_, rfl⟩
    · rw [if_neg c2]; exact ⟨_, rfl⟩
  · rw [if_neg c1]; exact ⟨_, rfl⟩
theorem quar_bad (h : badR f s) : pX12_readQuarreler s = some (nI 0, s) := by
  unfold pX12_readQuarreler
  rw [told_bad h, ob_s, if_neg (bad_eq h)]
theorem j59_bad (h : badR f s) (v1 v2 v3 : Int32) : X12_readSettle_j59 v1 v2 v3 s = some (nI 0, s) := by
  unfold X12_readSettle_j59
  rw [must_bad h, ob_s, if_neg (bad_le h)]; rfl
theorem p_settle (h : prR tb b e T j s q) (h12 : s.1 12 = nI 0) (hx : cxB B Bc nm k s r) (hw : wfB B) (h0 : B 0 = k) (hk : k < 16) : (∃ x y s' r', x < k ∧ y < k ∧ wq B x y = true ∧ pX12_readSettle s (nI k) = some (nI (2 ^ x ||| 2 ^ y), s') ∧ pX1_readSettled s0 q r (nI k) = some (true, uI q 10 (nI (j + 1 + 1 + 1 + 1)), r') ∧ prR tb b e T (j + 1 + 1 + 1 + 1) s' (uI q 10 (nI (j + 1 + 1 + 1 + 1))) ∧ s'.1 12 = nI 0 ∧ rsB s s' ∧ cxB B (upN (upN Bc (50 + k) x) (66 + k) y) nm k s' r' ∧ rk k r r' ∧ s'.2.2.2 = s.2.2.2 ∧ r'.2.2.1 7 k = nI (thB B x) ∧ r'.2.2.1 9 k = nI (2 ^ x ||| 2 ^ y) ∧ r'.2.2.1 13 k = nI x ∧ r'.2.2.1 14 k = nI y ∧ r'.2.2.1 5 = r.2.2.1 5) ∨ botB s q (pX12_readSettle s (nI k)) (pX1_readSettled s0 q r (nI k)) := by
  have q10 : uI q 10 (nI j) = q := by rw [← h.2.2.2.2.1, uI_self]
  unfold pX12_readSettle pX1_readSettled
  rw [r_isOf h.1 h.2.2.1, ob_s, show decide (kR tb b e (tsq b e j) = 5) = decide (kJ tb b e j = 5) from rfl, show (5 : Int32) = nI 5 from rfl]
  rcases must_t h h12 (k := 5) (by omega) with ⟨t1, f1, f2, f3, f4⟩ | ⟨f, f1, f2, f3, f4⟩
  · have n1 := nx_12 f4 h12
    obtain ⟨hB, hg, hb0, hn, hR⟩ := cxB_nx hx f4
    have hc0 : t1.2.2.1 4 1440 = nI k := by
      have := hB.1 0 (by omega)
      rw [hb0] at this; exact this
    rw [f1, ob_s, f2, ob_s, if_pos rfl]
    have tail : ∀ (F st : Nat) (v : Int32) (u : RS), 1 ≤ F → F ≤ 7 → rsB s u → pX12_readQuarreler t1 = some (v, fltR F st u) → botB s q ((pX12_readQuarreler t1).bind fun x3 => (pX12_must x3.2 true).bind fun x4 => (pX12_isNot x4).bind fun x5 => (pX12_must x4 x5).bind fun x6 => (pX12_readQuarreler x6).bind fun x7 => if (x7.2.1 12) = 0 then (pX12_wouldQuarrel x7.2 (1440 : Int32) x3.1 x7.1).bind fun x11 => if x11 = true then X12_readSettle_j59 (nI k) x3.1 x7.1 x7.2 else (pX12_fail x7.2 (nI 5) (x7.2.1 15)).bind fun x12 => X12_readSettle_j59 (nI k) x3.1 x7.1 x12 else X12_readSettle_j59 (nI k) x3.1 x7.1 x7.2) (some (false, fltX F st (uI q 10 (nI (j + 1))), r)) := fun F st v u h1 h2 hu hq => by
      have hb : badR F (fltR F st u) := ⟨rfl, h1, h2⟩
      obtain ⟨tt, e1⟩ := is_not (fltR F st u)
      rw [hq, ob_s, must_bad hb, ob_s, e1, ob_s, must_bad hb, ob_s, quar_bad hb, ob_s, if_neg (bad_eq hb), j59_bad hb]
      exact ⟨F, st, j + 1, nI 0, _, r, hb, rfl, rfl, rsB_tr hu (rsB_flt _), rfl⟩
    rcases p_told f3 n1 hc0 (by omega) (by rw [hR.2.1, h0]) hn with ⟨x, g1, g2, g3, g4⟩ | ⟨f, a, g1, g2, g3, g4⟩
    · have b4 := (hR.2.2.2 x (by omega)).1
      have b7 := (hR.2.2.2 x (by omega)).2.2.2.1
      have b12 := (hR.2.2.2 x (by omega)).2.2.2.2.2.2.2.2.1
      have k4 := (hw.2.2 x (by omega)).1
      have fl := foe_lt hw x
      obtain ⟨F1, F2⟩ := p_fail f3 n1 5
      have qr : pX12_readQuarreler t1 = if B (2 + x) = 0 then some (nI x, fltR 5 (tsq b e (j + 1)) t1) else if B (2 + x) = 4 then some (nI x, fltR 5 (tsq b e (j + 1)) t1) else some (nI x, t1) := by
        unfold pX12_readQuarreler X12_readQuarreler_j35
        rw [g2, ob_s, n1, if_pos (show nI 0 = (0 : Int32) from rfl), n_kind hB (by omega), ob_s, ob_s, hg.2.1 x g1, show (5 : Int32) = nI 5 from rfl, F1, ob_s, show (0 : Int32) = nI 0 from rfl, show (4 : Int32) = nI 4 from rfl, ifE (by omega) (by omega), ifE (by omega) (by omega)]
      have e57 : X1_readSettled_j57 s0 (uI q 10 (nI (j + 1))) r = some (false, fltX 5 (tsq b e (j + 1)) (uI q 10 (nI (j + 1))), r) := by
        unfold X1_readSettled_j57
        rw [show (5 : Int32) = nI 5 from rfl, F2, ob_s]
      rw [g3, ob_s, if_neg (show ¬ nI x = (-1 : Int32) by rw [show (-1 : Int32) = m1I from rfl, m1_ne (by omega)]; exact id)]
      simp (disch := omega) only [g_inT, nI_clamp]
      rw [b4, show (0 : Int32) = nI 0 from rfl, show (4 : Int32) = nI 4 from rfl, ifE (by omega) (by omega), ifE (by omega) (by omega), e57]
      by_cases c0 : B (2 + x) = 0
      · right
        rw [if_pos c0] at qr
        rw [if_pos c0]
        exact tail 5 _ _ _ (by omega) (by omega) (rsB_nx f4) qr
      · rw [if_neg c0] at qr
        by_cases c4 : B (2 + x) = 4
        · right
          rw [if_pos c4] at qr
          rw [if_neg c0, if_pos c4]
          exact tail 5 _ _ _ (by omega) (by omega) (rsB_nx f4) qr
        · rw [if_neg c4] at qr
          rw [if_neg c0, if_neg c4]
          obtain ⟨t2, y1, y2, y3, y4⟩ := p_next f3 (by omega)
          rw [uI_uI] at y2 y3
          have n2 := nx_12 y4 n1
          rw [y2, ob_s, qr, ob_s, must_tr n1 y1, ob_s, r_isNot y3.1 y3.2.2.1, ob_s, show decide (kR tb b e (tsq b e (j + 1 + 1)) = 9) = decide (kJ tb b e (j + 1 + 1) = 9) from rfl, show (9 : Int32) = nI 9 from rfl]
          rcases must_t y3 n2 (k := 9) (by omega) with ⟨t3, m1, m2, m3, m4⟩ | ⟨f, m1, m2, m3, m4⟩
          · rw [uI_uI] at m2 m3
            have n3 := nx_12 m4 n2
            have nx3 := nxS_tr (nxS_tr f4 y4) m4
            obtain ⟨hB3, hg3, hb3, hn3, hR3⟩ := cxB_nx hx nx3
            have hc3 : t3.2.2.1 4 1440 = nI k := by
              have := hB3.1 0 (by omega)
              rw [hb3] at this; exact this
            have wfc := wf_ag hw h0 hb3 hg3
            rw [m1, ob_s, m2, ob_s, if_pos rfl]
            rcases p_told m3 n3 hc3 (by omega) (by rw [hR.2.1, h0]) hn3 with ⟨y, p1, p2, p3, p4⟩ | ⟨f, a, p1, p2, p3, p4⟩
            · have ky := (hw.2.2 y (by omega)).1
              obtain ⟨G1, G2⟩ := p_fail m3 n3 5
              have hbG : badR 5 (fltR 5 (tsq b e (j + 1 + 1 + 1)) t3) := ⟨rfl, by omega, by omega⟩
              have qr2 : pX12_readQuarreler t3 = if B (2 + y) = 0 then some (nI y, fltR 5 (tsq b e (j + 1 + 1 + 1)) t3) else if B (2 + y) = 4 then some (nI y, fltR 5 (tsq b e (j + 1 + 1 + 1)) t3) else some (nI y, t3) := by
                unfold pX12_readQuarreler X12_readQuarreler_j35
                rw [p2, ob_s, n3, if_pos (show nI 0 = (0 : Int32) from rfl), n_kind hB3 (by omega), ob_s, ob_s, hg3.2.1 y p1, show (5 : Int32) = nI 5 from rfl, G1, ob_s, show (0 : Int32) = nI 0 from rfl, show (4 : Int32) = nI 4 from rfl, ifE (by omega) (by omega), ifE (by omega) (by omega)]
              have ft : (foe B x).testBit y = wq B x y := by
                rw [foe, mkN_tb, decide_eq_true (show y < B 0 by omega), Bool.true_and]
              rw [p3, ob_s, if_neg (show ¬ nI y = (-1 : Int32) by rw [show (-1 : Int32) = m1I from rfl, m1_ne (by omega)]; exact id), b12, isInT (by omega) (by omega), ob_s, ft]
              have bad : ∀ v : Int32, botB s q (some (v, fltR 5 (tsq b e (j + 1 + 1 + 1)) t3)) (some (false, fltX 5 (tsq b e (j + 1 + 1 + 1)) (uI q 10 (nI (j + 1 + 1 + 1))), r)) := fun v => ⟨5, tsq b e (j + 1 + 1 + 1), j + 1 + 1 + 1, v, _, r, hbG, rfl, rfl, rsB_tr (rsB_nx nx3) (rsB_flt _), rfl⟩
              cases cq : wq B x y with
              | false =>
                right
                rw [if_neg Bool.false_ne_true, G2, ob_s]
                by_cases d0 : B (2 + y) = 0
                · rw [if_pos d0] at qr2
                  rw [qr2, ob_s, if_neg (show ¬ (fltR 5 (tsq b e (j + 1 + 1 + 1)) t3).1 12 = nI 0 from bad_eq hbG), j59_bad hbG]
                  exact bad _
                · rw [if_neg d0] at qr2
                  by_cases d4 : B (2 + y) = 4
                  · rw [if_pos d4] at qr2
                    rw [qr2, ob_s, if_neg (show ¬ (fltR 5 (tsq b e (j + 1 + 1 + 1)) t3).1 12 = nI 0 from bad_eq hbG), j59_bad hbG]
                    exact bad _
                  · rw [if_neg d4] at qr2
                    rw [qr2, ob_s, n3, if_pos rfl, n_wouldQuarrel hB3 wfc (by omega) (by omega), ob_s, g_wq hw h0 hg3 g1 p1, cq, if_neg Bool.false_ne_true, G1, ob_s, j59_bad hbG]
                    exact bad _
              | true =>
                left
                have dk : B (2 + y) ≠ 0 ∧ B (2 + y) ≠ 4 := by
                  unfold wq fgt at cq
                  refine ⟨fun q => ?_, fun q => ?_⟩
                  · rw [q] at cq; simp at cq
                  · rw [q] at cq; simp at cq
                rw [if_neg dk.1, if_neg dk.2] at qr2
                obtain ⟨t4, z1, z2, z3, z4⟩ := p_next m3 (by omega)
                rw [uI_uI] at z2 z3
                have n4 := nx_12 z4 n3
                rw [if_pos rfl, z2, ob_s, qr2, ob_s, n3, if_pos rfl, n_wouldQuarrel hB3 wfc (by omega) (by omega), ob_s, g_wq hw h0 hg3 g1 p1, cq, if_pos rfl]
                simp only [thn_eq]
                unfold X12_readSettle_j59
                rw [must_tr n3 z1, ob_s, n4, if_pos (show nI 0 ≤ (0 : Int32) by decide), show (1490 : Int32) = nI 1490 from rfl, show (1506 : Int32) = nI 1506 from rfl, nI_add, nI_add, g_inT (by omega) (by omega), thn_eq, g_inT (by omega) (by omega), thn_eq, nI_clamp (by omega), nI_clamp (by omega), show (1 : Int32) = nI 1 from rfl, show (31 : Int32) = nI 31 from rfl, s1I (by omega), s1I (by omega), orI, b7, show 1490 + k = 1440 + (50 + k) by omega, show 1506 + k = 1440 + (66 + k) by omega]
                have cx4 := cxB_4 (v := y) (j := 66 + k) (cxB_4 (v := x) (j := 50 + k) (cxB_nx (cxB_nx hx nx3) z4) hk (by omega) (by omega)) hk (by omega) (by omega)
                have rr := rk_tr (rk_tr (rk_tr (rk_u (k := k) r (nI (thB B x)) (m := 7) (by omega)) (rk_u (k := k) _ (nI x) (m := 13) (by omega))) (rk_u (k := k) _ (nI y) (m := 14) (by omega))) (rk_u (k := k) _ (nI (2 ^ x ||| 2 ^ y)) (m := 9) (by omega))
                refine ⟨x, y, _, _, g1, p1, cq, rfl, rfl, prR_4 (prR_4 z3 _) _, show t4.1 12 = nI 0 from n4, rsB_tr (rsB_tr (rsB_nx (nxS_tr nx3 z4)) (rsB_4 (x := 1440 + (50 + k)) _ _ (by omega))) (rsB_4 (x := 1440 + (66 + k)) _ _ (by omega)), cxB_r cx4 rr h0, rr, ?_, ?_, ?_, ?_, ?_, ?_⟩
                · show t4.2.2.2 = s.2.2.2
                  rw [z4.2.2, nx3.2.2]
                · rw [uA_ne _ _ (by decide), uA_ne _ _ (by decide), uA_ne _ _ (by decide), uA_at, upd_at]
                · rw [uA_at, upd_at]
                · rw [uA_ne _ _ (by decide), uA_ne _ _ (by decide), uA_at, upd_at]
                · rw [uA_ne _ _ (by decide), uA_at, upd_at]
                · rw [uA_ne _ _ (by decide), uA_ne _ _ (by decide), uA_ne _ _ (by decide), uA_ne _ _ (by decide)]
            · right
              have hb : badR f (fltR f (tsq b e (j + 1 + 1 + 1)) t3) := ⟨rfl, p1, p2⟩
              have qb : pX12_readQuarreler t3 = some (a, fltR f (tsq b e (j + 1 + 1 + 1)) t3) := by
                unfold pX12_readQuarreler
                rw [p3, ob_s, if_neg (bad_eq hb)]
              rw [p4, ob_s, if_pos (show m1I = (-1 : Int32) from rfl), qb, ob_s, if_neg (show ¬ (fltR f (tsq b e (j + 1 + 1 + 1)) t3).1 12 = nI 0 from bad_eq hb), j59_bad hb]
              exact ⟨f, tsq b e (j + 1 + 1 + 1), j + 1 + 1 + 1, nI 0, _, r, hb, rfl, rfl, rsB_tr (rsB_nx nx3) (rsB_flt _), rfl⟩
          · right
            have hb : badR f (fltR f (tsq b e (j + 1 + 1)) t2) := ⟨rfl, m1, m2⟩
            rw [m3, ob_s, m4, ob_s, if_neg Bool.false_ne_true, quar_bad hb, ob_s, if_neg (show ¬ (fltR f (tsq b e (j + 1 + 1)) t2).1 12 = nI 0 from bad_eq hb), j59_bad hb]
            exact ⟨f, tsq b e (j + 1 + 1), j + 1 + 1, nI 0, _, r, hb, rfl, rfl, rsB_tr (rsB_nx (nxS_tr f4 y4)) (rsB_flt _), rfl⟩
    · right
      have qb : pX12_readQuarreler t1 = some (a, fltR f (tsq b e (j + 1)) t1) := by
        have hb : badR f (fltR f (tsq b e (j + 1)) t1) := ⟨rfl, g1, g2⟩
        unfold pX12_readQuarreler
        rw [g3, ob_s, if_neg (bad_eq hb)]
      rw [g4, ob_s, if_pos (show m1I = (-1 : Int32) from rfl)]
      exact tail f _ _ _ g1 g2 (rsB_nx f4) qb
  · right
    have hb : badR f (fltR f (tsq b e j) s) := ⟨rfl, f1, f2⟩
    obtain ⟨tt, e1⟩ := is_not (fltR f (tsq b e j) s)
    rw [f3, ob_s, f4, ob_s, if_neg Bool.false_ne_true, quar_bad hb, ob_s, must_bad hb, ob_s, e1, ob_s, must_bad hb, ob_s, quar_bad hb, ob_s, if_neg (bad_eq hb), j59_bad hb]
    exact ⟨f, tsq b e j, j, nI 0, _, r, hb, rfl, rfl, rsB_flt _, by rw [q10]⟩
end V
