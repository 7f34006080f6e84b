/-! ORDERS: how many, ahead -/
section X
variable {B : Nat → Nat} {r s3 s4 : RS} {w st len : Nat}
theorem x_ordF (hR : bkR B r) (hw : wfB B) (hc : ctR len st s3 s4) (hst : st + 1 < 262144) (hw2 : w < 2 ^ B 0) (hl : w < len) : ∃ q z, pX5_countOrdersF s3 r s4 (nI w) = some (lN (wy (B 0) w (ndE B none) 0), q, z) ∧ cnR B w none (st + 1) q ∧ mmR len (st + 1) (wy (B 0) w (ndE B none)) z ∧ ctR len (st + 1) q z := by
  obtain ⟨q, z, h1, h2⟩ := x_countF (e := none) hR hw (fun ab h => by cases h) hc hst hw2 hl
  exact ⟨q, z, bd (x := (lN (wy (B 0) w (ndE B none) 0), q, z)) h1 rfl, h2⟩
theorem x_ordG (hR : bkR B r) (hw : wfB B) (hc : ctR len st s3 s4) (hw2 : w < 2 ^ B 0) (hl : len ≤ w) : ∃ q z, pX5_countOrdersG s3 r s4 (nI w) = some (nI (2 ^ B 0), lN (wy (B 0) w (ndE B none) 0), q, z) ∧ cnR B w none 1 q ∧ mmR (2 ^ B 0) 1 (wy (B 0) w (ndE B none)) z ∧ ctR (2 ^ B 0) 1 q z := by
  obtain ⟨q, z, h1, h2⟩ := x_countG (e := none) hR hw (fun ab h => by cases h) hc hw2 hl
  exact ⟨q, z, bd (x := (nI w, m1I, m1I)) rfl (bd (x := (nI (2 ^ B 0), lN (wy (B 0) w (ndE B none) 0), q, z)) h1 rfl), h2⟩
end X
section Q
variable {s r : RS} {B : Nat → Nat} {s0 s1 s3 s4 : RS} {len st b0 b2 b4 : Nat} {f3 : Nat → Option Nat}
theorem q_orders (hB : blk (s.2.2.1 4) 0 B) (hw : wfB B) (hR : bkR B r) (hc : ctR len st s3 s4) (hst : st + 1 < 262144) (a0 : Int32) :
    (∃ a s' q z f', pX12_orders s a0 = some (a, s') ∧ rsame s s' ∧ pX11_ordersF s0 s1 r s3 s4 b0 b2 b4 f3 a0 = some (a, uI s0 11 (s'.1 0), q, z, f') ∧ (∃ st', st' ≤ st + 1 ∧ ctR len st' q z) ∧ f' 5 = f3 5) ∨
    (∃ a s' q z, pX12_orders s a0 = some (a, s') ∧ rsame s s' ∧ pX11_ordersG s0 s1 r s3 s4 a0 = some (nI (2 ^ B 0), a, uI s0 11 (s'.1 0), q, z) ∧ ctR (2 ^ B 0) 1 q z ∧ len < 2 ^ B 0) := by
  have h16 := hw.1
  rcases why_set (s := uI s 1 0) (s0 := s0) (s1 := s1) hB hw hR a0 with ⟨t, ht, ht', rfl, hl, e1, e2⟩ | ⟨w, h9, e1, e2⟩
  · obtain ⟨u1, u2, k1, k2, k3, k4, k5, k6⟩ := r_count (s := uI (uI s 1 0) 0 0) (e := none) hB hw (fun ab h => by cases h) ht hl
    have k1' : pX12_need (uI (uI s 1 0) 0 0) (nI t) (-1 : Int32) (-1 : Int32) = some u1 := k1
    have k7 : u2.2.2.2 8 (0 : Int32).toNatClampNeg = lN (wy (B 0) t (ndE B none) 0) := k6 0 (sb_0 t)
    have rs : rsame s u2 := rs_sxB (rs_sx (rq_2 _ _ _) k3 (by decide)) k4 (by decide)
    have st0 : u2.1 0 = 0 := by rw [k4.1, k3.1]; rfl
    have eR : pX12_orders s (nI t) = some (lN (wy (B 0) t (ndE B none) 0), u2) := by
      unfold pX12_orders
      simp only [thn_eq]
      rw [e1, ob_s, if_pos (show (uI (uI s 1 (0 : Int32)) 0 (0 : Int32)).1 0 ≤ 0 from (by decide : (0 : Int32) ≤ 0)), k1', ob_s, k2, ob_s, g_in0 _ (by omega) (by omega), k7]
    rcases Nat.lt_or_ge t len with c | c
    · left
      obtain ⟨q, z, g1, g2, g3, g4⟩ := x_ordF hR hw hc hst ht c
      refine ⟨_, u2, q, z, va_up f3 0 (some b2), eR, rs, ?_, ⟨st + 1, by omega, g4⟩, rfl⟩
      unfold pX11_ordersF
      rw [e2, ob_s, if_pos rfl, g1, ob_s, st0]; rfl
    · right
      obtain ⟨q, z, g1, g2, g3, g4⟩ := x_ordG hR hw hc ht c
      refine ⟨_, u2, q, z, eR, rs, ?_, g4, by omega⟩
      unfold pX11_ordersG pX11_ordersGh
      rw [e2, ob_s, if_pos rfl, ob_s, g1, ob_s, st0]; rfl
  · left
    refine ⟨-1, uI (uI s 1 0) 0 w, s3, s4, f3, ?_, rq_2 _ _ _, ?_, ⟨st, by omega, hc⟩, rfl⟩
    · unfold pX12_orders
      simp only [thn_eq]
      rw [e1, ob_s, if_neg (show ¬ (uI (uI s 1 (0 : Int32)) 0 w).1 0 ≤ 0 from (w_le h9).1)]
    · unfold pX11_ordersF
      rw [e2, ob_s, if_neg (w_le h9).2]; rfl
/-- the same but for the FRACTION (and the STATUS) -/
def rsF (s s' : RS) : Prop := (s'.1 8 = s.1 8 ∧ s'.1 10 = s.1 10 ∧ s'.1 11 = s.1 11 ∧ s'.1 22 = s.1 22 ∧ s'.1 43 = s.1 43) ∧ (s'.2.2.1 0 = s.2.2.1 0 ∧ s'.2.2.1 1 = s.2.2.1 1 ∧ s'.2.2.1 3 = s.2.2.1 3 ∧ s'.2.2.1 4 = s.2.2.1 4 ∧ s'.2.2.1 14 = s.2.2.1 14) ∧ s'.2.2.2 2 = s.2.2.2 2 ∧ s'.2.2.2 5 = s.2.2.2 5
theorem q_ahead (hB : blk (s.2.2.1 4) 0 B) (hw : wfB B) (hR : bkR B r) (hc : ctR len st s3 s4) (hst : st + 2 < 262144) (a0 a1 a2 : Int32) :
    (∃ s', pX12_ahead s a0 a1 a2 = some (false, s') ∧ rsame s s' ∧ pX11_aheadF s0 s1 r s3 s4 b0 b2 b4 f3 a0 a1 a2 = some (false, uI s0 11 (s'.1 0), s3, s4, f3)) ∨
    (∃ s' q z f' x y, pX12_ahead s a0 a1 a2 = some (true, s') ∧ rsF s s' ∧ s'.1 0 = 0 ∧ s'.2.1 2 = x ∧ s'.2.1 3 = y ∧ pX11_aheadF s0 s1 r s3 s4 b0 b2 b4 f3 a0 a1 a2 = some (true, uI (uL (uL s0 12 x) 13 y) 11 0, q, z, f') ∧ (∃ st', st' ≤ st + 2 ∧ ctR len st' q z) ∧ f' 5 = f3 5) ∨
    (∃ s' q z x y, pX12_ahead s a0 a1 a2 = some (true, s') ∧ rsF s s' ∧ s'.1 0 = 0 ∧ s'.2.1 2 = x ∧ s'.2.1 3 = y ∧ pX11_aheadG s0 s1 r s3 s4 a0 a1 a2 = some (nI (2 ^ B 0), true, uI (uL (uL s0 12 x) 13 y) 11 0, q, z) ∧ ctR (2 ^ B 0) 2 q z ∧ len < 2 ^ B 0) := by
  have h16 := hw.1
  rcases is_set (s := uI (uI s 1 0) 0 0) hB hw hR a0 with ⟨t, ht, ht', rfl, e1, e2⟩ | ⟨e1, e2⟩
  · rcases is_change (s := uI (uI s 1 0) 0 0) hB hw hR a1 with ⟨a, ha, rfl, e3, e4⟩ | ⟨e3, e4⟩
    · rcases is_change (s := uI (uI s 1 0) 0 0) hB hw hR a2 with ⟨b, hb, rfl, e5, e6⟩ | ⟨e5, e6⟩
      · by_cases c1 : a = b
        · have c1' : (nI a = nI b) = True := eq_true (by rw [c1])
          exact Or.inl ⟨uI (uI (uI s 1 0) 0 0) 0 2, by simp only [pX12_ahead, pX11_aheadF, pX11_aheadG, pX11_aheadGh, X12_ahead_j55, X11_aheadF_j36, X11_aheadF_j63, thn_eq, ob_s, ↓reduceIte, Bool.false_eq_true, e1, e2, e3, e4, e5, e6, c1']; rfl, rq_3 _ _ _ _, by simp only [pX12_ahead, pX11_aheadF, pX11_aheadG, pX11_aheadGh, X12_ahead_j55, X11_aheadF_j36, X11_aheadF_j63, thn_eq, ob_s, ↓reduceIte, Bool.false_eq_true, e1, e2, e3, e4, e5, e6, c1']; rfl⟩
        · have c1' : (nI a = nI b) = False := eq_false (fun q => c1 ((nI_eq (by omega) (by omega)).mp q))
          have i1 := hasT (a := t) (k := a) (by omega) (by omega)
          have i2 := isInT (a := t) (k := a) (by omega) (by omega)
          have i3 := hasT (a := t) (k := b) (by omega) (by omega)
          have i4 := isInT (a := t) (k := b) (by omega) (by omega)
          cases ca : t.testBit a with
          | false =>
            rw [ca] at i1 i2
            exact Or.inl ⟨uI (uI (uI s 1 0) 0 0) 0 2, by simp only [pX12_ahead, pX11_aheadF, pX11_aheadG, pX11_aheadGh, X12_ahead_j55, X11_aheadF_j36, X11_aheadF_j63, thn_eq, ob_s, ↓reduceIte, Bool.false_eq_true, e1, e2, e3, e4, e5, e6, c1', i1, i2]; rfl, rq_3 _ _ _ _, by simp only [pX12_ahead, pX11_aheadF, pX11_aheadG, pX11_aheadGh, X12_ahead_j55, X11_aheadF_j36, X11_aheadF_j63, thn_eq, ob_s, ↓reduceIte, Bool.false_eq_true, e1, e2, e3, e4, e5, e6, c1', i1, i2]; rfl⟩
          | true =>
            rw [ca] at i1 i2
            cases cb : t.testBit b with
            | false =>
              rw [cb] at i3 i4
              exact Or.inl ⟨uI (uI (uI s 1 0) 0 0) 0 2, by simp only [pX12_ahead, pX11_aheadF, pX11_aheadG, pX11_aheadGh, X12_ahead_j55, X11_aheadF_j36, X11_aheadF_j63, thn_eq, ob_s, ↓reduceIte, Bool.false_eq_true, e1, e2, e3, e4, e5, e6, c1', i1, i2, i3, i4]; rfl, rq_3 _ _ _ _, by simp only [pX12_ahead, pX11_aheadF, pX11_aheadG, pX11_aheadGh, X12_ahead_j55, X11_aheadF_j36, X11_aheadF_j63, thn_eq, ob_s, ↓reduceIte, Bool.false_eq_true, e1, e2, e3, e4, e5, e6, c1', i1, i2, i3, i4]; rfl⟩
            | true =>
              rw [cb] at i3 i4
              have hl := lk_lt hw t
              have r5 := r_lackOf (s := uI (uI s 1 0) 0 0) hB hw ht'
              have r6 := x_isClosed hR hw ht'
              by_cases cl : lk B t = 0
              · have cl' : (lk B t == 0) = true := by simpa using cl
                rw [cl'] at r6
                have l0 : (nI (lk B t) = (0 : Int32)) = True := eq_true (by rw [cl]; rfl)
                have he : ∀ ab, some (a, b) = some ab → ab.1 < B 0 ∧ ab.2 < B 0 := fun ab h => by cases h; exact ⟨ha, hb⟩
                obtain ⟨u1, u2, k1, k2, k3, k4, k5, k6⟩ := r_count (s := uI (uI s 1 0) 0 0) (e := none) hB hw (fun ab h => by cases h) ht cl
                have k1' : pX12_need (uI (uI s 1 0) 0 0) (nI t) (-1 : Int32) (-1 : Int32) = some u1 := k1
                have k7 : u2.2.2.2 8 (0 : Int32).toNatClampNeg = lN (wy (B 0) t (ndE B none) 0) := k6 0 (sb_0 t)
                have hB2 : blk (u2.2.2.1 4) 0 B := by rw [k4.2.2.1, k3.2.2.2 4 (by decide)]; exact hB
                obtain ⟨v1, v2, m1, m2, m3, m4, m5, m6⟩ := r_count (s := u2) (e := some (a, b)) hB2 hw he ht cl
                have m1' : pX12_need u2 (nI t) (nI a) (nI b) = some v1 := m1
                have m7 : v2.2.2.2 8 (0 : Int32).toNatClampNeg = lN (wy (B 0) t (ndE B (some (a, b))) 0) := m6 0 (sb_0 t)
                have w0 := wy_pos hw ht cl (B 0) 0 (by omega)
                have w0' : 0 < wy (B 0) t (ndE B none) 0 := w0
                have wl := wy_lt (nd := ndE B none) h16 ht' (sb_0 t)
                have wl2 := wy_lt (nd := ndE B (some (a, b))) h16 ht' (sb_0 t)
                have rsv : rsame s v2 := rs_sxB (rs_sx (rs_sxB (rs_sx (rq_2 _ _ _) k3 (by decide)) k4 (by decide)) m3 (by decide)) m4 (by decide)
                have st0 : v2.1 0 = 0 := by rw [m4.1, m3.1, k4.1, k3.1]; rfl
                have rsf : ∀ x y : Int64, rsF s (uL (uL v2 2 x) 3 y) := fun x y => ⟨rsv.1, rsv.2.2.1, rsv.2.2.2.1, rsv.2.2.2.2⟩
                have eR : pX12_ahead s (nI t) (nI a) (nI b) = some (true, uL (uL v2 2 (lN (wy (B 0) t (ndE B (some (a, b))) 0 / Nat.gcd (wy (B 0) t (ndE B (some (a, b))) 0) (wy (B 0) t (ndE B none) 0)))) 3 (lN (wy (B 0) t (ndE B none) 0 / Nat.gcd (wy (B 0) t (ndE B (some (a, b))) 0) (wy (B 0) t (ndE B none) 0)))) := by
                  simp only [pX12_ahead, pX11_aheadF, pX11_aheadG, pX11_aheadGh, X12_ahead_j55, X11_aheadF_j36, X11_aheadF_j63, thn_eq, ob_s, ↓reduceIte, Bool.false_eq_true, e1, e3, e5, c1', i1, i3, r5, l0, k1', k2, m1', m2]
                  rw [g_in0 _ (by omega) (by omega), k7]
                  rw [g_in0 _ (by omega) (by omega), m7, r_fraction wl2 wl w0', ob_s]
                rcases Nat.lt_or_ge t len with c | c
                · right; left
                  obtain ⟨q, z, g1, g2, g3, g4⟩ := x_countF (e := some (a, b)) hR hw he hc (by omega) ht c
                  have g1' : pX5_countOrdersWithF s3 r s4 (nI t) (nI a) (nI b) = some (lN (wy (B 0) t (ndE B (some (a, b))) 0), q, z) := g1
                  obtain ⟨q2, z2, j1, j2, j3, j4⟩ := x_ordF hR hw g4 (by omega) ht c
                  refine ⟨_, q2, z2, va_up (va_up f3 0 (some b2)) 0 (some b2), _, _, eR, rsf _ _, st0, rfl, rfl, ?_, ⟨st + 1 + 1, by omega, j4⟩, rfl⟩
                  simp only [pX12_ahead, pX11_aheadF, pX11_aheadG, pX11_aheadGh, X12_ahead_j55, X11_aheadF_j36, X11_aheadF_j63, thn_eq, ob_s, ↓reduceIte, Bool.false_eq_true, e2, e4, e6, c1', i2, i4, r6, g1', j1]
                  rw [x_fraction wl2 wl w0', ob_s]; rfl
                · right; right
                  obtain ⟨q, z, g1, g2, g3, g4⟩ := x_countG (e := some (a, b)) hR hw he hc ht c
                  have g1' : pX5_countOrdersWithG s3 r s4 (nI t) (nI a) (nI b) = some (nI (2 ^ B 0), lN (wy (B 0) t (ndE B (some (a, b))) 0), q, z) := g1
                  obtain ⟨q2, z2, j1, j2, j3, j4⟩ := x_ordF hR hw g4 (by omega) ht ht
                  refine ⟨_, q2, z2, _, _, eR, rsf _ _, st0, rfl, rfl, ?_, j4, by omega⟩
                  simp only [pX12_ahead, pX11_aheadF, pX11_aheadG, pX11_aheadGh, X12_ahead_j55, X11_aheadF_j36, X11_aheadF_j63, thn_eq, ob_s, ↓reduceIte, Bool.false_eq_true, pX11_aheadGt, e2, e4, e6, c1', i2, i4, r6, g1', j1]
                  rw [x_fraction wl2 wl w0', ob_s]; rfl
              · have cl' : (lk B t == 0) = false := by simpa using cl
                rw [cl'] at r6
                have l0 : (nI (lk B t) = (0 : Int32)) = False := eq_false (fun q => cl ((nI_eq (b := 0) (by omega) (by omega)).mp q))
                exact Or.inl ⟨uI (uI (uI s 1 0) 0 0) 0 9, by simp only [pX12_ahead, pX11_aheadF, pX11_aheadG, pX11_aheadGh, X12_ahead_j55, X11_aheadF_j36, X11_aheadF_j63, thn_eq, ob_s, ↓reduceIte, Bool.false_eq_true, e1, e2, e3, e4, e5, e6, c1', i1, i2, i3, i4, r5, r6, l0]; rfl, rq_3 _ _ _ _, by simp only [pX12_ahead, pX11_aheadF, pX11_aheadG, pX11_aheadGh, X12_ahead_j55, X11_aheadF_j36, X11_aheadF_j63, thn_eq, ob_s, ↓reduceIte, Bool.false_eq_true, e1, e2, e3, e4, e5, e6, c1', i1, i2, i3, i4, r5, r6, l0]; rfl⟩
      · exact Or.inl ⟨uI (uI (uI s 1 0) 0 0) 0 2, by simp only [pX12_ahead, pX11_aheadF, pX11_aheadG, pX11_aheadGh, X12_ahead_j55, X11_aheadF_j36, X11_aheadF_j63, thn_eq, ob_s, ↓reduceIte, Bool.false_eq_true, e1, e2, e3, e4, e5, e6]; rfl, rq_3 _ _ _ _, by simp only [pX12_ahead, pX11_aheadF, pX11_aheadG, pX11_aheadGh, X12_ahead_j55, X11_aheadF_j36, X11_aheadF_j63, thn_eq, ob_s, ↓reduceIte, Bool.false_eq_true, e1, e2, e3, e4, e5, e6]; rfl⟩
    · exact Or.inl ⟨uI (uI (uI s 1 0) 0 0) 0 2, by simp only [pX12_ahead, pX11_aheadF, pX11_aheadG, pX11_aheadGh, X12_ahead_j55, X11_aheadF_j36, X11_aheadF_j63, thn_eq, ob_s, ↓reduceIte, Bool.false_eq_true, e1, e2, e3, e4]; rfl, rq_3 _ _ _ _, by simp only [pX12_ahead, pX11_aheadF, pX11_aheadG, pX11_aheadGh, X12_ahead_j55, X11_aheadF_j36, X11_aheadF_j63, thn_eq, ob_s, ↓reduceIte, Bool.false_eq_true, e1, e2, e3, e4]; rfl⟩
  · exact Or.inl ⟨uI (uI (uI s 1 0) 0 0) 0 2, by simp only [pX12_ahead, pX11_aheadF, pX11_aheadG, pX11_aheadGh, X12_ahead_j55, X11_aheadF_j36, X11_aheadF_j63, thn_eq, ob_s, ↓reduceIte, Bool.false_eq_true, e1, e2]; rfl, rq_3 _ _ _ _, by simp only [pX12_ahead, pX11_aheadF, pX11_aheadG, pX11_aheadGh, X12_ahead_j55, X11_aheadF_j36, X11_aheadF_j63, thn_eq, ob_s, ↓reduceIte, Bool.false_eq_true, e1, e2]; rfl⟩
end Q
