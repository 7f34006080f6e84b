/-! BOOKS: AFTER, both ways -/
section V
variable {s q r s0 : RS} {b : Nat → Nat} {e T j f st k kd : Nat} {tb : Nat → Int64} {nm : Nat → Nat} {B Bc : Nat → Nat}
theorem r_tokW (h : prR tb b e T j s q) : s.1 14 = nI 1 ↔ kJ tb b e j ≤ 29 := by
  obtain ⟨_, _, h2, _, _, _⟩ := h
  rw [h2.2.1]
  unfold kJ
  have sm : ∀ x y : Nat, x ≤ 4 → y ≤ 4 → (nI x = nI y ↔ x = y) := fun x y hx hy => nI_eq (by omega) (by omega)
  rcases kR_c tb b e (tsq b e j) with ⟨_, h1, h2⟩ | ⟨hs, cl, h1, hB, h2⟩ | ⟨_, _, _, _, ⟨_, h1, h2⟩ | ⟨_, h1, h2⟩⟩ | ⟨_, _, _, ⟨h1, h2⟩ | ⟨h1, h2⟩⟩
  · rw [h1, h2, sm _ _ (by omega) (by omega)]; omega
  · rw [h1, h2]
    have l := fsN_le (fun i => decide (tb i = lN (w27 b (tsq b e j) (tkW b e (tsq b e j) - tsq b e j)))) 28
    by_cases c : tkW b e (tsq b e j) - tsq b e j ≤ 8
    · rw [if_pos c]; exact ⟨fun _ => by omega, fun _ => rfl⟩
    · rw [if_neg c]; exact ⟨fun _ => by omega, fun _ => rfl⟩
  · rw [h1, h2, sm _ _ (by omega) (by omega)]; omega
  · rw [h1, h2, sm _ _ (by omega) (by omega)]; omega
  · rw [h1, h2, sm _ _ (by omega) (by omega)]; omega
  · rw [h1, h2, sm _ _ (by omega) (by omega)]; omega
theorem x_noName (h : prR tb b e T j s q) (h12 : s.1 12 = nI 0) (c : kJ tb b e j ≠ 28) : pX8_changeHere q r = some (m1I, fltX (if kJ tb b e j = 32 then 1 else 2) (tsq b e j) q) := by
  unfold pX8_changeHere
  rw [x_isName h, ob_s, decide_eq_false c, if_neg Bool.false_ne_true, (p_wrong h h12).2, ob_s]; rfl
/-- what the class does behind its loop -/
def PA (k : Nat) (s0 r : RS) (o : Option (RS ⊕ (RS ⊕ ((Int32 × RS) ⊕ (Int32 × RS))))) : Option (Bool × RS × RS) := o.bind (Sum.elim (fun (t9 : RS) => some (false, t9, r)) (Sum.elim (fun (t10 : RS) => (pX8_blame t10 (5 : Int32)).bind fun x11 => some (x11.1, x11.2, r)) (Sum.elim (fun (t12 : Int32 × RS) => X1_readAfter_j105 (nI k) t12.1 s0 t12.2 r) (fun (t14 : Int32 × RS) => X1_readAfter_j105 (nI k) t14.1 s0 t14.2 r))))
def afG (tb : Nat → Int64) (b : Nat → Nat) (e T : Nat) (s q r s0 : RS) (k : Nat) (Ra : Option (Int32 × RS)) (X : Option (Bool × RS × RS)) : Prop := ∃ z s' j', Ra = some (nI z, s') ∧ z < 2 ^ k ∧ prR tb b e T j' s' (uI q 10 (nI j')) ∧ s'.1 12 = nI 0 ∧ nxS s s' ∧ ((kJ tb b e j' = 31 ∧ X = X1_readAfter_j105 (nI k) (nI z) s0 (uI q 10 (nI j')) r) ∨ (kJ tb b e j' ≠ 31 ∧ X = some (false, fltX (if kJ tb b e j' = 32 then 1 else 2) (tsq b e j') (uI q 10 (nI j')), r)))
theorem p_afterL (hw : wfB B) (h0 : B 0 = k) (hk : k < 16) : ∀ (m N N' j z : Nat) (s : RS), 17 - bts z ≤ m → m < N → m < N' → z < 2 ^ k → prR tb b e T j s (uI q 10 (nI j)) → s.1 12 = nI 0 → cxB B Bc nm k s r → (afG tb b e T s q r s0 k (a_loop (fun (y : Int32 × Bool × RS) => X12_readAfter_b24 y.1 y.2.1 y.2.2) N (nI z, true, s)) (PA k s0 r (a_loop (fun (y : Int32 × Int32 × RS) => X1_readAfter_b25 (nI k) y.1 y.2.1 s0 y.2.2 r) N' (nI z, nI (bts z), uI q 10 (nI j)))) ∨ botB s q (a_loop (fun (y : Int32 × Bool × RS) => X12_readAfter_b24 y.1 y.2.1 y.2.2) N (nI z, true, s)) (PA k s0 r (a_loop (fun (y : Int32 × Int32 × RS) => X1_readAfter_b25 (nI k) y.1 y.2.1 s0 y.2.2 r) N' (nI z, nI (bts z), uI q 10 (nI j)))))
  | 0, N, N', j, z, s, hm, _, _, _, _, _, _ => by
    have := bts_le z
    omega
  | m + 1, 0, N', j, z, s, _, hN, _, _, _, _, _ => by omega
  | m + 1, N + 1, 0, j, z, s, _, _, hN, _, _, _, _ => by omega
  | m + 1, N + 1, N' + 1, j, z, s, hm, hN, hN', hz, h, h12, hx => by
    have bz := bts_le z
    have p2k : 2 ^ k ≤ 2 ^ 16 := Nat.pow_le_pow_right (by decide) (by omega)
    have hx' := hx
    obtain ⟨hB, hg, hb0, hn, hR⟩ := hx'
    have hc0 : s.2.2.1 4 1440 = nI k := by
      have := hB.1 0 (by omega)
      rw [hb0] at this; exact this
    -- the reference goes on with a fault
    have rbad : ∀ (f : Nat) (u : RS) (v : Int32), badR f u → X12_readAfter_j65 (nI z) v u = some (.inl (nI z ||| (0 : Int32), decide (u.1 14 = (1 : Int32)), u)) := fun f u v hb => by
      unfold X12_readAfter_j65 X12_readAfter_j85 X12_readAfter_j100
      rw [must_bad hb, ob_s, if_neg (bad_eq hb), thn_eq]
      by_cases c : u.1 14 = (1 : Int32)
      · rw [if_pos c, decide_eq_true c]
      · rw [if_neg c, decide_eq_false c]
    have rout : ∀ (f : Nat) (u : RS) (v : Int32) (g : Bool), badR f u → a_loop (fun (y : Int32 × Bool × RS) => X12_readAfter_b24 y.1 y.2.1 y.2.2) N (v, g, u) = some (v, u) := fun f u v g hb => by
      rw [show N = (N - 1) + 1 by omega]
      refine lp_e ?_
      dsimp only [X12_readAfter_b24]
      rw [if_neg (bad_eq hb)]
      cases g with
      | false => rw [if_neg Bool.false_ne_true]
      | true => rw [if_pos rfl]
    rcases p_told h h12 hc0 (by omega) (by rw [hR.2.1, h0]) hn with ⟨x, g1, g2, g3, g4⟩ | ⟨f, a, g1, g2, g3, g4⟩
    · have xb : nI z >>> (nI x &&& 31) &&& (1 : Int32) = nI ((z.testBit x).toNat) := by
        rw [shI (by omega) (by omega), show (1 : Int32) = nI 1 from rfl, b1I]
      cases cz : z.testBit x with
      | true =>
        right
        obtain ⟨F1, F2⟩ := p_fail h h12 5
        have hb : badR 5 (fltR 5 (tsq b e j) s) := ⟨rfl, by omega, by omega⟩
        have r0 : (fun (y : Int32 × Bool × RS) => X12_readAfter_b24 y.1 y.2.1 y.2.2) (nI z, true, s) = some (.inl (nI z ||| (0 : Int32), decide ((fltR 5 (tsq b e j) s).1 14 = (1 : Int32)), fltR 5 (tsq b e j) s)) := by
          dsimp only [X12_readAfter_b24]
          rw [if_pos rfl, h12, if_pos (show nI 0 = (0 : Int32) from rfl), g2, ob_s, h12, if_pos (show nI 0 = (0 : Int32) from rfl), xb, cz, if_pos (show nI (true.toNat) = (1 : Int32) from rfl), show (5 : Int32) = nI 5 from rfl, F1, ob_s, rbad 5 _ _ hb]
        have x0 : (fun (y : Int32 × Int32 × RS) => X1_readAfter_b25 (nI k) y.1 y.2.1 s0 y.2.2 r) (nI z, nI (bts z), uI q 10 (nI j)) = some (.inr (.inr (.inl (uI q 10 (nI j))))) := by
          dsimp only [X1_readAfter_b25]
          rw [if_neg (show ¬ (16 : Int32) < nI (bts z) from nI_nlt (a := 16) (by omega) (by omega)), g3, ob_s, if_neg (show ¬ nI x = (-1 : Int32) by rw [show (-1 : Int32) = m1I from rfl, m1_ne (by omega)]; exact id), isInT (by omega) (by omega), ob_s, cz, if_pos rfl]
        rw [lp_s r0, rout 5 _ _ _ hb, lp_e x0]
        unfold PA
        rw [ob_s, se_r, se_l, show (5 : Int32) = nI 5 from rfl, F2, ob_s]
        exact ⟨5, tsq b e j, j, _, _, r, hb, rfl, rfl, rsB_flt _, rfl⟩
      | false =>
        obtain ⟨t2, y1, y2, y3, y4⟩ := p_next h (by omega)
        rw [uI_uI] at y2 y3
        have n2 := nx_12 y4 h12
        have hz2 : z ||| 2 ^ x < 2 ^ k := or_lt hz (p2_lt g1)
        have bz2 := bts_or (A := z) (show x < 16 by omega) cz
        have tw := r_tokW y3
        have hle' : kJ tb b e (j + 1) ≤ 33 := kR_le tb b e (tsq b e (j + 1))
        have r0 : (fun (y : Int32 × Bool × RS) => X12_readAfter_b24 y.1 y.2.1 y.2.2) (nI z, true, s) = some (.inl (nI (z ||| 2 ^ x), decide (kJ tb b e (j + 1) ≤ 29), t2)) := by
          dsimp only [X12_readAfter_b24]
          rw [if_pos rfl, h12, if_pos (show nI 0 = (0 : Int32) from rfl), g2, ob_s, h12, if_pos (show nI 0 = (0 : Int32) from rfl), xb, cz, if_neg (show ¬ nI (false.toNat) = (1 : Int32) by decide)]
          unfold X12_readAfter_j65 X12_readAfter_j85 X12_readAfter_j100
          rw [must_tr h12 y1, ob_s, n2, if_pos (show nI 0 = (0 : Int32) from rfl), thn_eq, show (1 : Int32) = nI 1 from rfl, show (31 : Int32) = nI 31 from rfl, s1I (by omega), orI]
          by_cases c : kJ tb b e (j + 1) ≤ 29
          · rw [if_pos (tw.mpr c), decide_eq_true c]
          · rw [if_neg (fun x => c (tw.mp x)), decide_eq_false c]
        have x0 : (fun (y : Int32 × Int32 × RS) => X1_readAfter_b25 (nI k) y.1 y.2.1 s0 y.2.2 r) (nI z, nI (bts z), uI q 10 (nI j)) = if kJ tb b e (j + 1) = 31 then some (.inr (.inr (.inr (.inl (nI (z ||| 2 ^ x), uI q 10 (nI (j + 1))))))) else some (.inl (nI (z ||| 2 ^ x), nI (bts (z ||| 2 ^ x)), uI q 10 (nI (j + 1)))) := by
          dsimp only [X1_readAfter_b25]
          rw [if_neg (show ¬ (16 : Int32) < nI (bts z) from nI_nlt (a := 16) (by omega) (by omega)), g3, ob_s, if_neg (show ¬ nI x = (-1 : Int32) by rw [show (-1 : Int32) = m1I from rfl, m1_ne (by omega)]; exact id), isInT (by omega) (by omega), ob_s, cz, if_neg Bool.false_ne_true, thn_eq, y2, ob_s, x_kindHere y3, ob_s, thn_eq, nI_1, ← bz2, show (1 : Int32) = nI 1 from rfl, show (nI x &&& (31 : Int32)) = nI x &&& nI 31 from rfl, s1I (by omega), orI, show (31 : Int32) = nI 31 from rfl, ifE (by omega) (by omega)]
        rw [lp_s r0]
        by_cases c31 : kJ tb b e (j + 1) = 31
        · left
          rw [if_pos c31] at x0
          rw [lp_e x0, decide_eq_false (by omega)]
          have r1 : (fun (y : Int32 × Bool × RS) => X12_readAfter_b24 y.1 y.2.1 y.2.2) (nI (z ||| 2 ^ x), false, t2) = some (.inr (nI (z ||| 2 ^ x), t2)) := by
            dsimp only [X12_readAfter_b24]
            rw [if_neg Bool.false_ne_true]
          rw [show N = (N - 1) + 1 by omega, lp_e r1]
          exact ⟨z ||| 2 ^ x, t2, j + 1, rfl, hz2, y3, n2, y4, Or.inl ⟨c31, rfl⟩⟩
        · rw [if_neg c31] at x0
          rw [lp_s x0]
          by_cases c29 : kJ tb b e (j + 1) ≤ 29
          · rw [decide_eq_true c29]
            have ih := p_afterL hw h0 hk m N N' (j + 1) (z ||| 2 ^ x) t2 (by omega) (by omega) (by omega) hz2 y3 n2 (cxB_nx hx y4)
            rcases ih with ⟨z', s', j', i1, i2, i3, i4, i5, i6⟩ | ⟨f, st, j', a, s', r', i1, i2, i3, i4, i5⟩
            · left
              exact ⟨z', s', j', i1, i2, i3, i4, nxS_tr y4 i5, i6⟩
            · right
              exact ⟨f, st, j', a, s', r', i1, i2, i3, rsB_tr (rsB_nx y4) i4, i5⟩
          · left
            rw [decide_eq_false c29]
            have r1 : (fun (y : Int32 × Bool × RS) => X12_readAfter_b24 y.1 y.2.1 y.2.2) (nI (z ||| 2 ^ x), false, t2) = some (.inr (nI (z ||| 2 ^ x), t2)) := by
              dsimp only [X12_readAfter_b24]
              rw [if_neg Bool.false_ne_true]
            have bz3 := bts_le (z ||| 2 ^ x)
            have x1 : (fun (y : Int32 × Int32 × RS) => X1_readAfter_b25 (nI k) y.1 y.2.1 s0 y.2.2 r) (nI (z ||| 2 ^ x), nI (bts (z ||| 2 ^ x)), uI q 10 (nI (j + 1))) = some (.inr (.inl (fltX (if kJ tb b e (j + 1) = 32 then 1 else 2) (tsq b e (j + 1)) (uI q 10 (nI (j + 1)))))) := by
              dsimp only [X1_readAfter_b25]
              rw [if_neg (show ¬ (16 : Int32) < nI (bts (z ||| 2 ^ x)) from nI_nlt (a := 16) (by omega) (by omega)), x_noName y3 n2 (by omega), ob_s, if_pos (show m1I = (-1 : Int32) from rfl)]
            rw [show N = (N - 1) + 1 by omega, lp_e r1, show N' = (N' - 1) + 1 by omega, lp_e x1]
            exact ⟨z ||| 2 ^ x, t2, j + 1, rfl, hz2, y3, n2, y4, Or.inr ⟨c31, rfl⟩⟩
    · right
      have hb : badR f (fltR f (tsq b e j) s) := ⟨rfl, g1, g2⟩
      have r0 : (fun (y : Int32 × Bool × RS) => X12_readAfter_b24 y.1 y.2.1 y.2.2) (nI z, true, s) = some (.inl (nI z ||| (0 : Int32), decide ((fltR f (tsq b e j) s).1 14 = (1 : Int32)), fltR f (tsq b e j) s)) := by
        dsimp only [X12_readAfter_b24]
        rw [if_pos rfl, h12, if_pos (show nI 0 = (0 : Int32) from rfl), g3, ob_s, if_neg (bad_eq hb), rbad f _ _ hb]
      have x0 : (fun (y : Int32 × Int32 × RS) => X1_readAfter_b25 (nI k) y.1 y.2.1 s0 y.2.2 r) (nI z, nI (bts z), uI q 10 (nI j)) = some (.inr (.inl (fltX f (tsq b e j) (uI q 10 (nI j))))) := by
        dsimp only [X1_readAfter_b25]
        rw [if_neg (show ¬ (16 : Int32) < nI (bts z) from nI_nlt (a := 16) (by omega) (by omega)), g4, ob_s, if_pos (show m1I = (-1 : Int32) from rfl)]
      rw [lp_s r0, rout f _ _ _ hb, lp_e x0]
      exact ⟨f, tsq b e j, j, _, _, r, hb, rfl, rfl, rsB_flt _, rfl⟩
/-- AFTER and its names, or nothing -/
theorem p_after (hw : wfB B) (h0 : B 0 = k) (hk : k < 16) (h : prR tb b e T j s (uI q 10 (nI j))) (h12 : s.1 12 = nI 0) (hx : cxB B Bc nm k s r) : (kJ tb b e j ≠ 10 ∧ pX12_readAfter s = some (nI 0, s) ∧ pX1_readAfter s0 (uI q 10 (nI j)) r (nI k) = some (true, uI q 10 (nI j), r)) ∨ afG tb b e T s q r s0 k (pX12_readAfter s) (pX1_readAfter s0 (uI q 10 (nI j)) r (nI k)) ∨ botB s q (pX12_readAfter s) (pX1_readAfter s0 (uI q 10 (nI j)) r (nI k)) := by
  have hle' : kJ tb b e j ≤ 33 := kR_le tb b e (tsq b e j)
  unfold pX12_readAfter pX1_readAfter
  rw [h12, if_neg (show ¬ (0 : Int32) < nI 0 by decide), r_isAfter h.1 h.2.2.1, ob_s, x_kindHere h, ob_s, show (10 : Int32) = nI 10 from rfl, ifE (by omega) (by omega), show decide (kR tb b e (tsq b e j) = 10) = decide (kJ tb b e j = 10) from rfl]
  by_cases c : kJ tb b e j = 10
  · right
    obtain ⟨t1, f1, f2, f3, f4⟩ := p_next h (by omega)
    rw [uI_uI] at f2 f3
    rw [decide_eq_true c, if_pos rfl, if_pos c, f1, ob_s, f2, ob_s]
    have e1 : ∀ o : Option (Int32 × RS), (o.bind fun (t7 : Int32 × RS) => some (t7.1, t7.2)) = o := fun o => by cases o <;> rfl
    rw [e1]
    have b0 : bts 0 = 0 := by decide
    have L := p_afterL (s0 := s0) hw h0 hk 17 FU FU (j + 1) 0 t1 (by omega) (by decide) (by decide) (Nat.two_pow_pos k) f3 (nx_12 f4 h12) (cxB_nx hx f4)
    rw [b0] at L
    rcases L with ⟨z', s', j', i1, i2, i3, i4, i5, i6⟩ | ⟨f, st, j', a, s', r', i1, i2, i3, i4, i5⟩
    · left
      exact ⟨z', s', j', i1, i2, i3, i4, nxS_tr f4 i5, i6⟩
    · right
      exact ⟨f, st, j', a, s', r', i1, i2, i3, rsB_tr (rsB_nx f4) i4, i5⟩
  · left
    rw [decide_eq_false c, if_neg Bool.false_ne_true, if_neg c]
    exact ⟨c, rfl, rfl⟩
end V
