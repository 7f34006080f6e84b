/-! BOOKS: a CHANGE, both ways -/
/-- the state between two parts of a book -/
def bV (tb : Nat → Int64) (b : Nat → Nat) (e T : Nat) (q0 : RS) (B nm nmI : Nat → Nat) (j : Nat) (s r : RS) : Prop := prR tb b e T j s (uI q0 10 (nI j)) ∧ s.1 12 = nI 0 ∧ blk (s.2.2.1 4) 1440 B ∧ wfB B ∧ bkR B r ∧ nmR 80 (B 0) nm (s.2.2.2 5) (r.2.2.2 3) ∧ nmR 96 (B 1) nmI (s.2.2.2 5) (r.2.2.2 2) ∧ ∀ i, B 0 ≤ i → i < 16 → r.2.2.1 9 i = nI 0 ∧ r.2.2.1 11 i = nI 0 ∧ r.2.2.1 12 i = nI 0
def botC (q0 s : RS) (Ra : Option (RS ⊕ RS)) (X : Option (Bool × RS × RS)) : Prop := ∃ f st j' s' r', badR f s' ∧ s'.1 13 = nI st ∧ Ra = some (.inl s') ∧ rsB s s' ∧ X = some (false, fltX f st (uI q0 10 (nI j')), r')
section V
variable {s q q0 r s0 : RS} {b : Nat → Nat} {e T j f st k kd z : Nat} {tb : Nat → Int64} {nm nmI : Nat → Nat} {B Bc : Nat → Nat}
theorem x_kindOf2 : ∀ K, K ≤ 33 → pX1_kindOf (nI K) = some (kwK K) := by
  refine k34 (fun K h => ?_)
  rcases h with rfl | rfl | rfl | rfl | rfl | rfl | rfl | rfl | rfl | rfl | rfl | rfl | rfl | rfl | rfl | rfl | rfl | rfl | rfl | rfl | rfl | rfl | rfl | rfl | rfl | rfl | rfl | rfl | rfl | rfl | rfl | rfl | rfl | rfl
  all_goals rfl
theorem j95_bad (h : badR f s) : X12_book_j95 s = some (.inl s) := by
  obtain ⟨t, e1⟩ := is_close s
  unfold X12_book_j95
  rw [e1, ob_s, must_bad h, ob_s]
theorem chF_cg {r' : RS} {z' : Nat} (h : chF B Bc r k kd z) (h5 : r'.2.2.1 5 k = r.2.2.1 5 k) (h6 : r'.2.2.1 6 k = r.2.2.1 6 k) (h7 : r'.2.2.1 7 k = r.2.2.1 7 k) (h13 : r'.2.2.1 13 k = r.2.2.1 13 k) (h14 : r'.2.2.1 14 k = r.2.2.1 14 k) (h9 : r'.2.2.1 9 k = nI z') (hz : z' < 2 ^ k) (hs : ∀ i, z.testBit i = true → z'.testBit i = true) : chF B Bc r' k kd z' := by
  obtain ⟨c1, c2, c3, c4, c5, c6, c7, c8⟩ := h
  refine ⟨hz, h9, by rw [h5]; exact c3, fun q => by rw [h6]; exact c4 q, by rw [h7]; exact c5, fun q => ⟨(c6 q).1, hs _ (c6 q).2⟩, c7, fun q => ?_⟩
  obtain ⟨d1, d2, d3, d4, d5⟩ := c8 q
  exact ⟨d1, hs _ d2, d3, by rw [h13]; exact d4, by rw [h14]; exact d5⟩
/-- the sign behind a CHANGE -/
theorem p_close2 {nm' : Nat → Nat} (h : prR tb b e T j s (uI q0 10 (nI j))) (h12 : s.1 12 = nI 0) (hR : bkR B r) (hg : agB B Bc k) (hw : wfB B) (h0 : B 0 = k) (hk : k < 16) (h2 : Bc (2 + k) = kd) (h4 : kd ≤ 4) (hc : chF B Bc r k kd z) (hr4 : r.2.2.1 4 k = nI kd) (hz : ∀ i, k ≤ i → i < 16 → r.2.2.1 11 i = nI 0 ∧ r.2.2.1 12 i = nI 0) (hz9 : ∀ i, k < i → i < 16 → r.2.2.1 9 i = nI 0) (hN : nmR 80 (k + 1) nm' (s.2.2.2 5) (r.2.2.2 3)) (hN2 : nmR 96 (B 1) nmI (s.2.2.2 5) (r.2.2.2 2)) (hb : blk (s.2.2.1 4) 1440 (finB B Bc k z)) : (∃ s' j' r', X12_book_j95 s = some (.inl s') ∧ ((pX8_pass (uI q0 10 (nI j)) (31 : Int32)).bind fun x13 => if x13.1 = true then (pX0_addChange r).bind fun x14 => some (true, x13.2, x14) else some (false, x13.2, r)) = some (true, uI q0 10 (nI j'), r') ∧ bV tb b e T q0 (finB B Bc k z) nm' nmI j' s' r' ∧ rsB s s') ∨ botC q0 s (X12_book_j95 s) ((pX8_pass (uI q0 10 (nI j)) (31 : Int32)).bind fun x13 => if x13.1 = true then (pX0_addChange r).bind fun x14 => some (true, x13.2, x14) else some (false, x13.2, r)) := by
  obtain ⟨hw', r2, y1, y2, y3, y4⟩ := x_fin (z := z) hR hw h0 hk hg h2 h4 hc hr4 hz hz9
  have a0 := (fin_at (B := B) (Bc := Bc) (z := z) hk).1
  have a1 : finB B Bc k z 1 = B 1 := (fin_ag (z := z) hk hg).1
  unfold X12_book_j95
  rw [r_isClose h, ob_s, show (31 : Int32) = nI 31 from rfl]
  rcases must_t h h12 (k := 31) (by omega) with ⟨t, f1, f2, f3, f4⟩ | ⟨f, f1, f2, f3, f4⟩
  · left
    rw [uI_uI] at f2 f3
    rw [f1, ob_s, f2, ob_s, if_pos rfl, y1, ob_s]
    refine ⟨t, j + 1, r2, rfl, rfl, ⟨f3, nx_12 f4 h12, by rw [f4.2.2]; exact hb, hw', y2, ?_, ?_, fun i hi => by rw [a0] at hi; exact y4 i hi⟩, rsB_nx f4⟩
    · rw [a0, f4.2.2, y3]; exact hN
    · rw [a1, f4.2.2, y3]; exact hN2
  · right
    rw [f3, ob_s, f4, ob_s, if_neg Bool.false_ne_true]
    exact ⟨f, tsq b e j, j, _, r, ⟨rfl, f1, f2⟩, rfl, rfl, rsB_flt _, rfl⟩
theorem p_change (hV : bV tb b e T q0 B nm nmI j s r) (hkd : kwK (kJ tb b e j) = nI kd) (h4 : kd ≤ 4) : (∃ B' nm' s' j' r', (pX12_readChange s).bind X12_book_j95 = some (.inl s') ∧ pX1_readChange s0 (uI q0 10 (nI j)) r = some (true, uI q0 10 (nI j'), r') ∧ bV tb b e T q0 B' nm' nmI j' s' r' ∧ rsB s s' ∧ B' 0 = B 0 + 1 ∧ B' 1 = B 1) ∨ botC q0 s ((pX12_readChange s).bind X12_book_j95) (pX1_readChange s0 (uI q0 10 (nI j)) r) := by
  obtain ⟨h, h12, hB, hw, hR, hn, hn2, hz⟩ := hV
  have hle' : kJ tb b e j ≤ 33 := kR_le tb b e (tsq b e j)
  obtain ⟨k, h0⟩ : ∃ k, B 0 = k := ⟨_, rfl⟩
  have h16 := hw.1
  have i4 := hw.2.1
  rw [h0] at hn hz h16
  have hc0 : s.2.2.1 4 1440 = nI k := by have := hB.1 0 (by omega); rw [h0] at this; exact this
  have hc1 : s.2.2.1 4 1441 = nI (B 1) := hB.1 1 (by omega)
  have hk1 : r.1 1 = nI k := by rw [hR.2.1, h0]
  have hrc : pX12_readChange s = if k = 16 then (pX12_fail s (6 : Int32) (s.1 15)).bind fun x15 => X12_readChange_j25 (nI k) x15 else X12_readChange_j25 (nI k) s := by
    unfold pX12_readChange
    rw [show (1440 : Int32) = nI 1440 from rfl, g_inT (by omega) (by omega), nI_clamp (by omega), hc0, thn_eq, show (16 : Int32) = nI 16 from rfl, ifE (by omega) (by omega)]
  rw [hrc]
  unfold pX1_readChange
  rw [x_kindHere h, ob_s, x_kindOf2 _ hle', hkd, ob_s, if_neg (show ¬ nI kd = (-1 : Int32) by rw [show (-1 : Int32) = m1I from rfl, m1_ne (by omega)]; exact id), hk1, thn_eq, show (16 : Int32) = nI 16 from rfl, ifLt (by omega) (by omega)]
  by_cases c16 : k = 16
  · right
    obtain ⟨F1, F2⟩ := p_fail h h12 6
    have hb : badR 6 (fltR 6 (tsq b e j) s) := ⟨rfl, by omega, by omega⟩
    rw [if_pos c16, if_neg (by omega), show (6 : Int32) = nI 6 from rfl, F1, ob_s, F2, ob_s]
    unfold X12_readChange_j25
    rw [if_neg (bad_le hb), ob_s, j95_bad hb]
    exact ⟨6, tsq b e j, j, _, r, hb, rfl, rfl, rsB_flt _, rfl⟩
  · have hk : k < 16 := by omega
    have p2k : 2 ^ k ≤ 2 ^ 16 := Nat.pow_le_pow_right (by decide) (by omega)
    have n33 : kJ tb b e j ≠ 33 := by
      intro c
      rw [c] at hkd
      have : m1I = nI kd := hkd
      rw [m1_ne' (by omega)] at this
      exact this
    obtain ⟨tn, u1, u2, u3, u4⟩ := p_next h n33
    rw [uI_uI] at u2
    rw [if_neg c16, if_pos hk, u2, ob_s]
    unfold X12_readChange_j25
    rw [h12, if_pos (show nI 0 ≤ (0 : Int32) by decide), r_kindWord h.1 h.2.2.1, ob_s, show kwK (kR tb b e (tsq b e j)) = nI kd from hkd]
    rcases p_new (s0 := s0) h n33 h12 hc0 hc1 (by omega) i4 hk1 hR.1 hn hn2 (fi := 0) (ma := k) (by omega) with ⟨x, t1, x1, f1, f2, f3, f4, f5, f6, f7, f8, f9⟩ | ⟨f, t1, f1, f2, f3, f4, f5⟩
    · rw [uI_uI] at f2 f3 f5
      rw [uI_uI, uI_uI] at f4
      rw [show pX12_readNew s (0 : Int32) (nI k) = some t1 from f1, ob_s, f2, ob_s, if_pos rfl, f3, ob_s, if_pos (show t1.1 12 ≤ (0 : Int32) by rw [f6]; decide), show (1442 : Int32) = nI 1442 from rfl, nI_add, g_inT (a := 1442 + k) (by omega) (by omega), nI_clamp (show 1442 + k < 2 ^ 31 by omega), show 1442 + k = 1440 + (2 + k) by omega, thn_eq, g_inT (n := 16) hk (by omega), nI_clamp (show k < 2 ^ 31 by omega), thn_eq, g_inT (n := 16) hk (by omega), thn_eq, g_inT (n := 16) hk (by omega), thn_eq, f4, ob_s]
      -- the class's Book with the name and the kind
      have q1 : (uA (uA (uB r 3 (vp_updL (r.2.2.2 3) k (lN x))) 4 (upd ((uB r 3 (vp_updL (r.2.2.2 3) k (lN x))).2.2.1 4) k (nI kd))) 5 (upd ((uA (uB r 3 (vp_updL (r.2.2.2 3) k (lN x))) 4 (upd ((uB r 3 (vp_updL (r.2.2.2 3) k (lN x))).2.2.1 4) k (nI kd))).2.2.1 5) k (-1 : Int32))).1 = r.1 := rfl
      have q2 : ∀ n i, i ≠ k → (uA (uA (uB r 3 (vp_updL (r.2.2.2 3) k (lN x))) 4 (upd ((uB r 3 (vp_updL (r.2.2.2 3) k (lN x))).2.2.1 4) k (nI kd))) 5 (upd ((uA (uB r 3 (vp_updL (r.2.2.2 3) k (lN x))) 4 (upd ((uB r 3 (vp_updL (r.2.2.2 3) k (lN x))).2.2.1 4) k (nI kd))).2.2.1 5) k (-1 : Int32))).2.2.1 n i = r.2.2.1 n i := fun n i hi => by
        by_cases c5 : n = 5
        · rw [c5, uA_at, upd_ne _ _ hi, uA_ne _ _ (by decide)]; rfl
        · rw [uA_ne _ _ c5]
          by_cases c4 : n = 4
          · rw [c4, uA_at, upd_ne _ _ hi]; rfl
          · rw [uA_ne _ _ c4]; rfl
      have q3 : ∀ n, n ≠ 4 → n ≠ 5 → (uA (uA (uB r 3 (vp_updL (r.2.2.2 3) k (lN x))) 4 (upd ((uB r 3 (vp_updL (r.2.2.2 3) k (lN x))).2.2.1 4) k (nI kd))) 5 (upd ((uA (uB r 3 (vp_updL (r.2.2.2 3) k (lN x))) 4 (upd ((uB r 3 (vp_updL (r.2.2.2 3) k (lN x))).2.2.1 4) k (nI kd))).2.2.1 5) k (-1 : Int32))).2.2.1 n = r.2.2.1 n := fun n c4 c5 => by rw [uA_ne _ _ c5, uA_ne _ _ c4]; rfl
      have q4 : (uA (uA (uB r 3 (vp_updL (r.2.2.2 3) k (lN x))) 4 (upd ((uB r 3 (vp_updL (r.2.2.2 3) k (lN x))).2.2.1 4) k (nI kd))) 5 (upd ((uA (uB r 3 (vp_updL (r.2.2.2 3) k (lN x))) 4 (upd ((uB r 3 (vp_updL (r.2.2.2 3) k (lN x))).2.2.1 4) k (nI kd))).2.2.1 5) k (-1 : Int32))).2.2.1 4 k = nI kd := by rw [uA_ne _ _ (by decide), uA_at, upd_at]
      have q5 : (uA (uA (uB r 3 (vp_updL (r.2.2.2 3) k (lN x))) 4 (upd ((uB r 3 (vp_updL (r.2.2.2 3) k (lN x))).2.2.1 4) k (nI kd))) 5 (upd ((uA (uB r 3 (vp_updL (r.2.2.2 3) k (lN x))) 4 (upd ((uB r 3 (vp_updL (r.2.2.2 3) k (lN x))).2.2.1 4) k (nI kd))).2.2.1 5) k (-1 : Int32))).2.2.1 5 k = m1I := by rw [uA_at, upd_at]; rfl
      have q6 : (uA (uA (uB r 3 (vp_updL (r.2.2.2 3) k (lN x))) 4 (upd ((uB r 3 (vp_updL (r.2.2.2 3) k (lN x))).2.2.1 4) k (nI kd))) 5 (upd ((uA (uB r 3 (vp_updL (r.2.2.2 3) k (lN x))) 4 (upd ((uB r 3 (vp_updL (r.2.2.2 3) k (lN x))).2.2.1 4) k (nI kd))).2.2.1 5) k (-1 : Int32))).2.2.2 3 = vp_updL (r.2.2.2 3) k (lN x) := uB_at r 3 _
      have q7 : (uA (uA (uB r 3 (vp_updL (r.2.2.2 3) k (lN x))) 4 (upd ((uB r 3 (vp_updL (r.2.2.2 3) k (lN x))).2.2.1 4) k (nI kd))) 5 (upd ((uA (uB r 3 (vp_updL (r.2.2.2 3) k (lN x))) 4 (upd ((uB r 3 (vp_updL (r.2.2.2 3) k (lN x))).2.2.1 4) k (nI kd))).2.2.1 5) k (-1 : Int32))).2.2.2 2 = r.2.2.2 2 := uB_ne (n := 3) (k := 2) r (vp_updL (r.2.2.2 3) k (lN x)) (by decide)
      generalize uA (uA (uB r 3 (vp_updL (r.2.2.2 3) k (lN x))) 4 (upd ((uB r 3 (vp_updL (r.2.2.2 3) k (lN x))).2.2.1 4) k (nI kd))) 5 (upd ((uA (uB r 3 (vp_updL (r.2.2.2 3) k (lN x))) 4 (upd ((uB r 3 (vp_updL (r.2.2.2 3) k (lN x))).2.2.1 4) k (nI kd))).2.2.1 5) k (-1 : Int32)) = r1 at *
      -- the reference with the kind
      have v1 : blk ((uA t1 4 (upd (t1.2.2.1 4) (1440 + (2 + k)) (nI kd))).2.2.1 4) 1440 (upN B (2 + k) kd) := by rw [uA_at]; exact blk_up (by rw [f8]; exact hB) (by omega)
      have v2 := prR_4 f5 (upd (t1.2.2.1 4) (1440 + (2 + k)) (nI kd))
      have v3 : rsB s (uA t1 4 (upd (t1.2.2.1 4) (1440 + (2 + k)) (nI kd))) := rsB_tr f7 (rsB_4 (x := 1440 + (2 + k)) _ _ (by omega))
      have v4 : (uA t1 4 (upd (t1.2.2.1 4) (1440 + (2 + k)) (nI kd))).1 12 = nI 0 := f6
      have v5 : (uA t1 4 (upd (t1.2.2.1 4) (1440 + (2 + k)) (nI kd))).2.2.2 5 = vp_updL (s.2.2.2 5) (80 + k) (lN (cv 8 x)) := by
        show t1.2.2.2 5 = _
        rw [f9]
      generalize uA t1 4 (upd (t1.2.2.1 4) (1440 + (2 + k)) (nI kd)) = t2 at *
      have cx : cxB B (upN B (2 + k) kd) nm k t2 r1 := ⟨v1, agB_up B kd hk (by omega), by rw [upN_ne _ _ (by omega)]; exact h0, fun i hi => by rw [v5, q6, updL_ne _ _ (by omega), updL_ne _ _ (by omega)]; exact hn i hi, bkR_cg q1 (fun n i hi => q2 n i (by omega)) hR⟩
      have hN : nmR 80 (k + 1) (upN nm k x) (t2.2.2.2 5) (r1.2.2.2 3) := fun i hi => by
        by_cases ci : i = k
        · rw [ci, v5, q6, updL_at, updL_at, upN_at]; exact ⟨rfl, rfl, x1⟩
        · rw [v5, q6, updL_ne _ _ (by omega), updL_ne _ _ ci, upN_ne _ _ ci]; exact hn i (by omega)
      have hN2 : nmR 96 (B 1) nmI (t2.2.2.2 5) (r1.2.2.2 2) := fun i hi => by
        rw [v5, q7, updL_ne _ _ (by omega)]; exact hn2 i hi
      have hz1 : ∀ i, k ≤ i → i < 16 → r1.2.2.1 11 i = nI 0 ∧ r1.2.2.1 12 i = nI 0 := fun i h1 h2 => by
        rw [q3 11 (by decide) (by decide), q3 12 (by decide) (by decide)]; exact (hz i h1 h2).2
      have hz9 : ∀ i, k ≤ i → i < 16 → r1.2.2.1 9 i = nI 0 := fun i h1 h2 => by
        rw [q3 9 (by decide) (by decide)]; exact (hz i h1 h2).1
      rcases p_what (s0 := s0) v2 v4 cx hw h0 hk (upN_at B (2 + k) kd) h4 q5 (hz9 k (Nat.le_refl _) hk) with ⟨z, Bc, t5, j5, r5, e1, e2, p5, n5, rs5, cx5, rk5, w5, b5, ch5⟩ | ⟨f, st, j', a, t5, r5, e1, e2, e3, e4, e5⟩
      · rw [uI_uI] at e2 p5
        rw [e1, ob_s, e2, ob_s, if_pos rfl]
        have hN5 : nmR 80 (k + 1) (upN nm k x) (t5.2.2.2 5) (r5.2.2.2 3) := by rw [w5, rk5.2.1]; exact hN
        have hN25 : nmR 96 (B 1) nmI (t5.2.2.2 5) (r5.2.2.2 2) := by rw [w5, rk5.2.1]; exact hN2
        have hr45 : r5.2.2.1 4 k = nI kd := by rw [rk5.2.2.2 4 (by omega)]; exact q4
        have hz5 : ∀ i, k ≤ i → i < 16 → r5.2.2.1 11 i = nI 0 ∧ r5.2.2.1 12 i = nI 0 := fun i h1 h2 => by
          rw [rk5.2.2.2 11 (by omega), rk5.2.2.2 12 (by omega)]; exact hz1 i h1 h2
        have hz95 : ∀ i, k < i → i < 16 → r5.2.2.1 9 i = nI 0 := fun i h1 h2 => by
          rw [rk5.2.2.1 9 i (by omega)]; exact hz9 i (by omega) h2
        have hzl := ch5.1
        rcases p_after (s0 := s0) hw h0 hk p5 n5 cx5 with ⟨a1, a2, a3⟩ | ⟨z2, t6, j6, a1, a2, a3, a4, a5, a6⟩ | ⟨f, st, j', a, t6, r6, a1, a2, a3, a4, a5⟩
        · rw [a2, ob_s, a3, ob_s, if_pos rfl, n5, orI, Nat.or_zero, thn_eq, if_pos (show nI 0 ≤ (0 : Int32) by decide)]
          obtain ⟨t7, y1, y2, y3, y4, y5, y6⟩ := r_fin (z := z) p5 cx5 hw h0 hk hzl
          rw [y1, ob_s]
          rcases p_close2 (nm' := upN nm k x) (nmI := nmI) y2 (by rw [y3]; exact n5) cx5.2.2.2.2 cx5.2.1 hw h0 hk b5 h4 ch5 hr45 hz5 hz95 (by rw [y4]; exact hN5) (by rw [y4]; exact hN25) y6 with ⟨s', j', r', m1, m2, m3, m4⟩ | ⟨f, st, j', s', r', m1, m2, m3, m4, m5⟩
          · left
            exact ⟨finB B Bc k z, upN nm k x, s', j', r', m1, m2, m3, rsB_tr (rsB_tr v3 rs5) (rsB_tr y5 m4), by rw [(fin_at hk).1, h0], (fin_ag hk cx5.2.1).1⟩
          · right
            exact ⟨f, st, j', s', r', m1, m2, m3, rsB_tr (rsB_tr v3 rs5) (rsB_tr y5 m4), m5⟩
        · have cx6 := cxB_nx cx5 a5
          have hzz : z ||| z2 < 2 ^ k := or_lt hzl a2
          obtain ⟨t7, y1, y2, y3, y4, y5, y6⟩ := r_fin (z := z ||| z2) a3 cx6 hw h0 hk hzz
          rw [a1, ob_s, a4, orI, thn_eq, if_pos (show nI 0 ≤ (0 : Int32) by decide), y1, ob_s]
          rcases a6 with ⟨c31, a6⟩ | ⟨c31, a6⟩
          · have e105 : X1_readAfter_j105 (nI k) (nI z2) s0 (uI q0 10 (nI j6)) r5 = some (true, uI q0 10 (nI j6), uA r5 9 (upd (r5.2.2.1 9) k (nI (z ||| z2)))) := by
              unfold X1_readAfter_j105
              rw [g_inT (by omega) (by omega), g_inT (by omega) (by omega), nI_clamp (by omega), ch5.2.1, orI, thn_eq]
            rw [a6, e105, ob_s, if_pos rfl]
            have rr := rk_u (k := k) r5 (nI (z ||| z2)) (m := 9) (by omega)
            have cx7 := cxB_r cx6 rr h0
            have ch7 : chF B Bc (uA r5 9 (upd (r5.2.2.1 9) k (nI (z ||| z2)))) k kd (z ||| z2) := chF_cg ch5 (by rw [uA_ne _ _ (by decide)]) (by rw [uA_ne _ _ (by decide)]) (by rw [uA_ne _ _ (by decide)]) (by rw [uA_ne _ _ (by decide)]) (by rw [uA_ne _ _ (by decide)]) (by rw [uA_at, upd_at]) hzz (fun i hi => by rw [Nat.testBit_or, hi]; rfl)
            rcases p_close2 (nm' := upN nm k x) (nmI := nmI) y2 (by rw [y3]; exact a4) cx7.2.2.2.2 cx7.2.1 hw h0 hk b5 h4 ch7 (by rw [uA_ne _ _ (by decide)]; exact hr45) (fun i h1 h2 => by rw [uA_ne _ _ (by decide), uA_ne _ _ (by decide)]; exact hz5 i h1 h2) (fun i h1 h2 => by rw [uA_at, upd_ne _ _ (by omega)]; exact hz95 i h1 h2) (by rw [y4, a5.2.2]; exact hN5) (by rw [y4, a5.2.2]; exact hN25) y6 with ⟨s', j', r', m1, m2, m3, m4⟩ | ⟨f, st, j', s', r', m1, m2, m3, m4, m5⟩
            · left
              exact ⟨finB B Bc k (z ||| z2), upN nm k x, s', j', r', m1, m2, m3, rsB_tr (rsB_tr v3 rs5) (rsB_tr (rsB_nx a5) (rsB_tr y5 m4)), by rw [(fin_at hk).1, h0], (fin_ag hk cx5.2.1).1⟩
            · right
              exact ⟨f, st, j', s', r', m1, m2, m3, rsB_tr (rsB_tr v3 rs5) (rsB_tr (rsB_nx a5) (rsB_tr y5 m4)), m5⟩
          · right
            rw [a6, ob_s, if_neg Bool.false_ne_true]
            have hF : ∃ F, 1 ≤ F ∧ F ≤ 7 ∧ (if kJ tb b e j6 = 32 then 1 else 2) = F := by
              by_cases c32 : kJ tb b e j6 = 32
              · rw [if_pos c32]; exact ⟨1, by omega, by omega, rfl⟩
              · rw [if_neg c32]; exact ⟨2, by omega, by omega, rfl⟩
            obtain ⟨F, F1, F2, F3⟩ := hF
            have mf := must_fl y2 (by rw [y3]; exact a4)
            rw [F3] at mf ⊢
            unfold X12_book_j95
            rw [r_isClose y2, ob_s, decide_eq_false c31, mf, ob_s]
            exact ⟨F, tsq b e j6, j6, _, r5, ⟨rfl, F1, F2⟩, rfl, rfl, rsB_tr (rsB_tr v3 rs5) (rsB_tr (rsB_nx a5) (rsB_tr y5 (rsB_flt _))), rfl⟩
        · right
          rw [a3, ob_s, thn_eq, if_neg (show ¬ t6.1 12 ≤ (0 : Int32) from bad_le a1), ob_s, a5, ob_s, if_neg Bool.false_ne_true, j95_bad a1]
          exact ⟨f, st, j', t6, r6, a1, a2, rfl, rsB_tr (rsB_tr v3 rs5) a4, rfl⟩
      · right
        rw [uI_uI] at e5
        have ab : pX12_readAfter t5 = some (nI 0, t5) := by
          unfold pX12_readAfter
          rw [e1.1, if_pos (show (0 : Int32) < nI f from nI_lt (a := 0) (by have := e1.2.1; omega) (by have := e1.2.2; omega))]; rfl
        rw [e3, ob_s, ab, ob_s, thn_eq, if_neg (show ¬ t5.1 12 ≤ (0 : Int32) from bad_le e1), ob_s, e5, ob_s, if_neg Bool.false_ne_true, j95_bad e1]
        exact ⟨f, st, j', t5, r5, e1, e2, rfl, rsB_tr v3 e4, rfl⟩
    · right
      rw [uI_uI] at f5
      rw [show pX12_readNew s (0 : Int32) (nI k) = some t1 from f3, ob_s, f5, ob_s, if_neg Bool.false_ne_true, if_neg (show ¬ t1.1 12 ≤ (0 : Int32) from bad_le f1), ob_s, j95_bad f1]
      exact ⟨f, tsq b e (j + 1), j + 1, t1, r, f1, f2, rfl, f4, rfl⟩
end V
