/-! HOW MANY ORDERS: reference and class -/
theorem wyF_cg {n w : Nat} {nd ne : Nat → Nat} (h : ∀ k, w.testBit k = true → nd k = ne k) : ∀ (f P : Nat), wyF n w nd f P = wyF n w ne f P
  | 0, _ => rfl
  | f + 1, P => by
    unfold wyF
    by_cases e : P = w
    · rw [if_pos e, if_pos e]
    · rw [if_neg e, if_neg e]
      apply smN_cg
      intro k _
      have : rdy w nd P k = rdy w ne P k := by
        unfold rdy
        cases c : w.testBit k with
        | false => rfl
        | true => rw [h k c]
      rw [this, wyF_cg h f]
theorem wy_cg {n w : Nat} {nd ne : Nat → Nat} (h : ∀ k, w.testBit k = true → nd k = ne k) (P : Nat) : wy n w nd P = wy n w ne P := wyF_cg h 16 P
/-- the same but for the row n of longs -/
def sxB (n : Nat) (s s' : RS) : Prop := s'.1 = s.1 ∧ s'.2.1 = s.2.1 ∧ s'.2.2.1 = s.2.2.1 ∧ ∀ k, k ≠ n → s'.2.2.2 k = s.2.2.2 k
theorem sxB_rf (n : Nat) (s : RS) : sxB n s s := ⟨rfl, rfl, rfl, fun _ _ => rfl⟩
theorem sxB_tr {n : Nat} {a b c : RS} (h : sxB n a b) (h2 : sxB n b c) : sxB n a c := ⟨h2.1.trans h.1, h2.2.1.trans h.2.1, h2.2.2.1.trans h.2.2.1, fun k hk => (h2.2.2.2 k hk).trans (h.2.2.2 k hk)⟩
theorem sxB_uB (n : Nat) (s : RS) (f : Nat → Int64) : sxB n s (uB s n f) := ⟨rfl, rfl, rfl, fun k hk => by show va_up s.2.2.2 n f k = _; exact if_neg hk⟩
theorem uB_at (s : RS) (n : Nat) (f : Nat → Int64) : (uB s n f).2.2.2 n = f := if_pos rfl
theorem updL_at (f : Nat → Int64) (k : Nat) (x : Int64) : vp_updL f k x k = x := if_pos rfl
theorem updL_ne (f : Nat → Int64) {k j : Nat} (x : Int64) (h : j ≠ k) : vp_updL f k x j = f j := if_neg h
theorem rs_sxB {s s' s2 : RS} (h : rsame s s') {n : Nat} (hx : sxB n s' s2) (hn : n ≠ 2 ∧ n ≠ 5) : rsame s s2 :=
  rs_tr h ⟨⟨by rw [hx.1], by rw [hx.1], by rw [hx.1], by rw [hx.1], by rw [hx.1]⟩, ⟨by rw [hx.2.1], by rw [hx.2.1]⟩, ⟨by rw [hx.2.2.1], by rw [hx.2.2.1], by rw [hx.2.2.1], by rw [hx.2.2.1], by rw [hx.2.2.1]⟩, hx.2.2.2 2 hn.1.symm, hx.2.2.2 5 hn.2.symm⟩
section R
variable {s : RS} {B : Nat → Nat}
theorem r_need0 (hB : blk (s.2.2.1 4) 0 B) (hw : wfB B) {w : Nat} (v1 v2 : Int32) : ∃ s', a_loop (fun (q : Int32 × RS) => X12_need_b3 (nI w) v1 v2 q.1 q.2) FU ((0 : Int32), s) = some s' ∧ sx 9 s s' ∧ ∀ k, k < B 0 → s'.2.2.1 9 k = nI (B (98 + k) &&& w) := by
  have h16 := hw.1
  obtain ⟨x, h1, h2⟩ := lp_m (body := fun (q : Int32 × RS) => X12_need_b3 (nI w) v1 v2 q.1 q.2) (I := fun m q => ∃ k s', k ≤ B 0 ∧ m = B 0 - k ∧ q = (nI k, s') ∧ sx 9 s s' ∧ ∀ j, j < k → s'.2.2.1 9 j = nI (B (98 + j) &&& w)) (P := fun s' => sx 9 s s' ∧ ∀ k, k < B 0 → s'.2.2.1 9 k = nI (B (98 + k) &&& w)) (fun m q hi => by
    obtain ⟨k, s', hk, rfl, rfl, hs, hj⟩ := hi
    have hB' : blk (s'.2.2.1 4) 0 B := by rw [hs.2.2.2 4 (by decide)]; exact hB
    have hb0 : s'.2.2.1 4 (0 : Int32).toNatClampNeg = nI (B 0) := hB'.1 0 (by omega)
    dsimp only [X12_need_b3]
    rw [hb0, show (0 : Int32) = nI 0 from rfl, g_inT (by omega) (by omega)]
    rcases Nat.lt_or_eq_of_le hk with c | c
    · refine Or.inl ⟨B 0 - (k + 1), (nI (k + 1), uA s' 9 (upd (s'.2.2.1 9) k (nI (B (98 + k) &&& w)))), by omega, ⟨k + 1, _, by omega, rfl, rfl, sx_tr hs (sx_uA _ _ _), fun j hj2 => ?_⟩, ?_⟩
      · rw [uA_at]
        by_cases e : j = k
        · rw [e, upd_at]
        · rw [upd_ne _ _ e]; exact hj j (by omega)
      · rw [if_neg (nI_ge c (by omega)), show (nI 0) = (0 : Int32) from rfl, r_hangsOn hB' (by omega), ob_s, g_inT (by omega) (by omega), anI, nI_clamp (by omega), thn_eq, thn_eq, nI_1]
    · subst c
      exact Or.inr ⟨s', ⟨hs, hj⟩, by rw [if_pos (nI_le (Nat.le_refl _) (by omega))]⟩) FU (B 0) (nI 0, s) (by show B 0 < 100000; omega) ⟨0, s, Nat.zero_le _, rfl, rfl, sx_rf _ _, fun j h => absurd h (Nat.not_lt_zero _)⟩
  exact ⟨x, h1, h2⟩
def ndR (B : Nat → Nat) (w : Nat) (e : Option (Nat × Nat)) (k : Nat) : Nat := (B (98 + k) &&& w) ||| (match e with | none => 0 | some ab => if k = ab.2 then 2 ^ ab.1 else 0)
theorem r_needN (hB : blk (s.2.2.1 4) 0 B) (hw : wfB B) {w : Nat} : ∃ s', pX12_need s (nI w) (-1 : Int32) (-1 : Int32) = some s' ∧ sx 9 s s' ∧ ∀ k, k < B 0 → s'.2.2.1 9 k = nI (ndR B w none k) := by
  obtain ⟨s', h1, h2, h3⟩ := r_need0 hB hw (w := w) (-1) (-1)
  refine ⟨s', bd h1 ?_, h2, fun k hk => ?_⟩
  · rw [if_pos (show (-1 : Int32) < 0 by decide)]
  · rw [h3 k hk]
    show nI _ = nI (_ ||| 0)
    rw [Nat.or_zero]
theorem r_needS (hB : blk (s.2.2.1 4) 0 B) (hw : wfB B) {w a b : Nat} (ha : a < B 0) (hb : b < B 0) : ∃ s', pX12_need s (nI w) (nI a) (nI b) = some s' ∧ sx 9 s s' ∧ ∀ k, k < B 0 → s'.2.2.1 9 k = nI (ndR B w (some (a, b)) k) := by
  have h16 := hw.1
  obtain ⟨s', h1, h2, h3⟩ := r_need0 hB hw (w := w) (nI a) (nI b)
  refine ⟨uA s' 9 (upd (s'.2.2.1 9) b (nI (B (98 + b) &&& w ||| 2 ^ a))), bd h1 ?_, sx_tr h2 (sx_uA _ _ _), fun k hk => ?_⟩
  · rw [if_neg (show ¬ nI b < 0 from nI_nlt (b := 0) (Nat.zero_le _) (by omega)), g_inT (by omega) (by omega), g_inT (by omega) (by omega), nI_clamp (by omega), h3 b hb, show (1 : Int32) = nI 1 from rfl, show (31 : Int32) = nI 31 from rfl, s1I (by omega), orI, thn_eq]
  · rw [uA_at]
    unfold ndR
    by_cases e : k = b
    · rw [e, upd_at]; simp
    · rw [upd_ne _ _ e, h3 k hk]
      simp [e]
def dnI : Nat → Int32
  | 0 => m1I
  | m + 1 => nI m
theorem r_countWays (hB : blk (s.2.2.1 4) 0 B) (hw : wfB B) {w : Nat} {nd : Nat → Nat} (hw2 : w < 2 ^ B 0) (hnd : ∀ k, k < B 0 → s.2.2.1 9 k = nI (nd k) ∧ nd k < 65536) : ∃ s', pX12_countWays s (nI w) = some s' ∧ sxB 8 s s' ∧ ∀ P, sbN P w → s'.2.2.2 8 P = lN (wy (B 0) w nd P) := by
  have h16 := hw.1
  have p16 : 2 ^ B 0 ≤ 2 ^ 16 := Nat.pow_le_pow_right (by decide) h16
  have w6 : w < 65536 := by omega
  unfold pX12_countWays
  obtain ⟨x, h1, h2⟩ := lp_m (body := fun (q : Int32 × RS) => X12_countWays_b2 (nI w) q.1 q.2) (I := fun m q => ∃ s', q = (dnI m, s') ∧ m ≤ w + 1 ∧ sxB 8 s s' ∧ ∀ P, sbN P w → m ≤ P → s'.2.2.2 8 P = lN (wy (B 0) w nd P)) (P := fun s' => sxB 8 s s' ∧ ∀ P, sbN P w → s'.2.2.2 8 P = lN (wy (B 0) w nd P)) (fun m q hi => by
    obtain ⟨s', rfl, hm, hs, hP⟩ := hi
    have hB' : blk (s'.2.2.1 4) 0 B := by rw [hs.2.2.1]; exact hB
    cases m with
    | zero =>
      refine Or.inr ⟨s', ⟨hs, fun P h => hP P h (Nat.zero_le _)⟩, ?_⟩
      dsimp only [X12_countWays_b2, dnI]
      rw [if_pos (show m1I < (0 : Int32) by decide)]
    | succ m =>
      have m6 : m < 65536 := by omega
      have dn : nI m + (-1) = dnI m := by
        cases m with
        | zero => rfl
        | succ m => exact pk_m1 m
      have d6 : bdf m w < 65536 := bdf_lt (n := 16) m6
      have d7 : bdf w m < 65536 := bdf_lt (n := 16) w6
      left
      show ∃ m' s'_1, _ ∧ _ ∧ X12_countWays_b2 (nI w) (nI m) s' = _
      unfold X12_countWays_b2 X12_countWays_j95
      rw [if_neg (show ¬ nI m < 0 from nI_nlt (b := 0) (Nat.zero_le _) (by omega)), show (-1 : Int32) = m1I from rfl, dfI, show (0 : Int32) = nI 0 from rfl, ifE (by omega) (by omega), ifE (by omega) (by omega), thn_eq, show nI m + m1I = dnI m from dn]
      by_cases c : bdf m w = 0
      · have hsb : sbN m w := fun i hi => by
          have := bdf_tb m w i
          rw [c, Nat.zero_testBit, hi] at this
          cases e : w.testBit i with
          | true => rfl
          | false => rw [e] at this; cases this
        -- the sum
        have run : ∀ v : Nat, ∃ s2, X12_countWays_j32 (nI w) (nI m) (nI m) (lN v) s' = some (.inl (dnI m, s2)) ∧ sxB 8 s' s2 ∧ s2.2.2.2 8 m = lN (v + smN (fun k => if rdy w nd m k then wy (B 0) w nd (m ||| 2 ^ k) else 0) (B 0)) ∧ ∀ P, P ≠ m → s2.2.2.2 8 P = s'.2.2.2 8 P := by
          intro v
          unfold X12_countWays_j32 X12_countWays_j95
          rw [g_inT (by omega) (by omega), thn_eq, nI_clamp (by omega)]
          obtain ⟨y, k1, k2⟩ := lp_m (body := fun (q : Int32 × RS) => X12_countWays_b35 (nI w) (nI m) q.1 q.2) (I := fun d q => ∃ k s2, k ≤ B 0 ∧ d = B 0 - k ∧ q = (nI k, s2) ∧ sxB 8 s' s2 ∧ s2.2.2.2 8 m = lN (v + smN (fun k => if rdy w nd m k then wy (B 0) w nd (m ||| 2 ^ k) else 0) k) ∧ ∀ P, P ≠ m → s2.2.2.2 8 P = s'.2.2.2 8 P) (P := fun s2 => sxB 8 s' s2 ∧ s2.2.2.2 8 m = lN (v + smN (fun k => if rdy w nd m k then wy (B 0) w nd (m ||| 2 ^ k) else 0) (B 0)) ∧ ∀ P, P ≠ m → s2.2.2.2 8 P = s'.2.2.2 8 P) (fun d q hi => by
            obtain ⟨k, s2, hk, rfl, rfl, t1, t2, t3⟩ := hi
            have hb0 : s2.2.2.1 4 (0 : Int32).toNatClampNeg = nI (B 0) := by rw [t1.2.2.1]; exact hB'.1 0 (by omega)
            dsimp only [X12_countWays_b35, X12_countWays_j89]
            rw [hb0, show (0 : Int32) = nI 0 from rfl, g_inT (by omega) (by omega)]
            rcases Nat.lt_or_eq_of_le hk with cc | cc
            · left
              obtain ⟨n1, n2⟩ := hnd k cc
              have n3 : s2.2.2.1 9 k = nI (nd k) := by rw [t1.2.2.1, hs.2.2.1]; exact n1
              have n4 : bdf (nd k) m < 65536 := bdf_lt (n := 16) n2
              have p6 : 2 ^ k < 65536 := p2_lt (n := 16) (by omega)
              have o6 : m ||| 2 ^ k < 65536 := or_lt (n := 16) m6 p6
              rw [if_neg (nI_ge cc (by omega)), show (-1 : Int32) = m1I from rfl, dfI, hasT (by omega) (by omega), ob_s, nI_clamp (by omega), n3, dfI, show nI 0 = nI 0 from rfl, ifE (by omega) (by omega), show (1 : Int32) = nI 1 from rfl, show (31 : Int32) = nI 31 from rfl, s1I (by omega), orI, nI_clamp (by omega), nI_clamp (by omega), bdf_tb]
              simp (disch := omega) only [g_inT, thn_eq, nI_add]
              have hu : smN (fun k => if rdy w nd m k then wy (B 0) w nd (m ||| 2 ^ k) else 0) (k + 1) = smN (fun k => if rdy w nd m k then wy (B 0) w nd (m ||| 2 ^ k) else 0) k + (if rdy w nd m k then wy (B 0) w nd (m ||| 2 ^ k) else 0) := rfl
              by_cases rr : rdy w nd m k = true
              · obtain ⟨r1, r2, r3⟩ := rdy_w rr
                have ne : m ||| 2 ^ k ≠ m := fun q => by
                  have : (m ||| 2 ^ k).testBit k = true := by rw [Nat.testBit_or, p2_tb]; simp
                  rw [q, r2] at this; cases this
                have gt : m + 1 ≤ m ||| 2 ^ k := by
                  have : m ≤ m ||| 2 ^ k := Nat.left_le_or
                  omega
                refine ⟨B 0 - (k + 1), (nI (k + 1), uB s2 8 (vp_updL (s2.2.2.2 8) m (s2.2.2.2 8 m + s2.2.2.2 8 (m ||| 2 ^ k)))), by omega, ⟨k + 1, _, by omega, rfl, rfl, sxB_tr t1 (sxB_uB _ _ _), ?_, fun P hPm => ?_⟩, ?_⟩
                · rw [uB_at, updL_at, t2, t3 _ ne, hP _ (sb_or hsb r1) gt, lN_add, hu, rr, if_pos rfl, Nat.add_assoc]
                · rw [uB_at, updL_ne _ _ hPm]; exact t3 P hPm
                · rw [r1, r2, r3]; rfl
              · refine ⟨B 0 - (k + 1), (nI (k + 1), s2), by omega, ⟨k + 1, _, by omega, rfl, rfl, t1, ?_, t3⟩, ?_⟩
                · rw [t2, hu, if_neg rr]; rfl
                · unfold rdy at rr
                  cases c1 : w.testBit k with
                  | false => rfl
                  | true =>
                    cases c2 : m.testBit k with
                    | true => rfl
                    | false =>
                      have c3 : ¬ bdf (nd k) m = 0 := fun q => rr (by rw [c1, c2, q]; rfl)
                      rw [if_neg c3]; rfl
            · subst cc
              exact Or.inr ⟨s2, ⟨t1, t2, t3⟩, by rw [if_pos (nI_le (Nat.le_refl _) (by omega))]⟩) FU (B 0) (nI 0, uB s' 8 (vp_updL (s'.2.2.2 8) m (lN v))) (by show B 0 < 100000; omega) ⟨0, _, Nat.zero_le _, rfl, rfl, sxB_uB _ _ _, by rw [uB_at, updL_at]; rfl, fun P hPm => by rw [uB_at, updL_ne _ _ hPm]⟩
          refine ⟨y, bd k1 ?_, k2⟩
          rw [show nI m + -1 = dnI m from dn, thn_eq]
        rw [if_pos c]
        by_cases e : m = w
        · rw [if_pos e]
          obtain ⟨s2, g1, g2, g3, g4⟩ := run 1
          refine ⟨m, (dnI m, s2), by omega, ⟨s2, rfl, by omega, sxB_tr hs g2, fun P hPs hmP => ?_⟩, g1⟩
          by_cases q : P = m
          · rw [q, g3]
            have : smN (fun k => if rdy w nd m k then wy (B 0) w nd (m ||| 2 ^ k) else 0) (B 0) = 0 := by
              rw [smN_cg (q := fun _ => 0) (fun k _ => ?_), smN_z]
              rw [if_neg]
              intro h
              obtain ⟨r1, r2, _⟩ := rdy_w h
              rw [e, r1] at r2; cases r2
            rw [this, e, wy_self]
          · rw [g4 P q]; exact hP P hPs (by omega)
        · rw [if_neg e]
          obtain ⟨s2, g1, g2, g3, g4⟩ := run 0
          refine ⟨m, (dnI m, s2), by omega, ⟨s2, rfl, by omega, sxB_tr hs g2, fun P hPs hmP => ?_⟩, g1⟩
          by_cases q : P = m
          · rw [q, g3, Nat.zero_add, ← wy_step w6 hsb e]
          · rw [g4 P q]; exact hP P hPs (by omega)
      · rw [if_neg c]
        refine ⟨m, (dnI m, s'), by omega, ⟨s', rfl, by omega, hs, fun P hPs hmP => hP P hPs ?_⟩, rfl⟩
        by_cases q : P = m
        · exfalso
          subst q
          apply c
          apply Nat.eq_of_testBit_eq
          intro i
          rw [bdf_tb, Nat.zero_testBit]
          cases e : P.testBit i with
          | false => rfl
          | true => rw [hPs i e]; rfl
        · omega) FU (w + 1) (nI w, s) (by show w + 1 < 100000; omega) ⟨s, rfl, Nat.le_refl _, sxB_rf _ _, fun P h hP => by have := sb_le h w6; omega⟩
  exact ⟨x, bd h1 rfl, h2⟩
end R
