/-! TEXTS: a STEP with what it holds, both ways -/
section V
variable {s q q0 r lg s0 : RS} {b : Nat → Nat} {e T j f st w a k R d z wd kd : Nat} {tb : Nat → Int64} {nm nmI : Nat → Nat} {B : Nat → Nat} {rc : RS → Int32 → Option RS}
/-- what is said of a reading that goes well, from step k, row R on, at depth d -/
def gdL (tb : Nat → Int64) (b : Nat → Nat) (e T : Nat) (q0 r : RS) (B nm nmI : Nat → Nat) (k R d z : Nat) (s s0 lg : RS) (X : Option (Bool × RS × RS × RS)) (j' k' R' z' : Nat) (s' s0' lg' : RS) : Prop :=
  X = LPg r z' true s0' (uI q0 10 (nI j')) lg' ∧ inV tb b e T q0 r B nm nmI j' k' R' d z' s' s0' lg' ∧ rsK k s s' ∧ (∀ n i, i < R → lg'.2.2.1 n i = lg.2.2.1 n i) ∧ (∀ i, i < d → s0'.2.2.1 3 i = s0.2.2.1 3 i)
def stepOK (tb : Nat → Int64) (b : Nat → Nat) (e T : Nat) (q0 r : RS) (B nm nmI : Nat → Nat) (rc : RS → Int32 → Option RS) (d : Nat) : Prop := ∀ j k R z s s0 lg, inV tb b e T q0 r B nm nmI j k R d z s s0 lg → (kJ tb b e j = 26 → d = 0) → (kJ tb b e j = 33 → 0 < d) →
  (∃ j' k' R' z' s' s0' lg', rc s (nI d) = some s' ∧ gdL tb b e T q0 r B nm nmI k R d z s s0 lg (LPg r z true s0 (uI q0 10 (nI j)) lg) j' k' R' z' s' s0' lg' ∧ el B lg' (fun x => s'.2.2.1 4 (1440 + x)) (4 - d) R R' k k') ∨ bothL r q0 k s (rc s (nI d)) (LPg r z true s0 (uI q0 10 (nI j)) lg)
/-- the STEPS that a block holds -/
theorem p_inner (hs : stepOK tb b e T q0 r B nm nmI rc (d + 1)) (v : Int32) : ∀ (m N j k R z : Nat) (s s0 lg : RS), 31 - k ≤ m → m + 1 < N → inV tb b e T q0 r B nm nmI j k R (d + 1) z s s0 lg →
    (∃ n j' k' R' z' s' s0' lg', a_loop (fun (q : RS) => X12_readStep_b140 rc (nI d) true v q) N s = some s' ∧ kJ tb b e j' = 26 ∧ gdL tb b e T q0 r B nm nmI k R (d + 1) z s s0 lg (LPg r z true s0 (uI q0 10 (nI j)) lg) j' k' R' z' s' s0' lg' ∧ sg B lg' (fun x => s'.2.2.1 4 (1440 + x)) n (4 - (d + 1)) R R' k k') ∨ bothL r q0 k s (a_loop (fun (q : RS) => X12_readStep_b140 rc (nI d) true v q) N s) (LPg r z true s0 (uI q0 10 (nI j)) lg)
  | 0, N, j, k, R, z, s, s0, lg, hm, hN, hI => by
    obtain ⟨_, _, _, h30, _⟩ := hI
    omega
  | m + 1, 0, j, k, R, z, s, s0, lg, hm, hN, hI => by omega
  | m + 1, N + 1, j, k, R, z, s, s0, lg, hm, hN, hI => by
    have h := hI.1
    have h12 := hI.2.1
    have hb : ∀ x, (if kJ tb b e j = 26 then some (Sum.inr s) else (rc s (nI (d + 1))).bind fun x10 => some (Sum.inl x10)) = x → (fun (q : RS) => X12_readStep_b140 rc (nI d) true v q) s = x := fun x hx => by
      dsimp only [X12_readStep_b140]
      rw [if_pos rfl, h12, if_pos (show nI 0 = (0 : Int32) from rfl), r_isEnd h.1 h.2.2.1, ob_s, nI_1, show decide (kR tb b e (tsq b e j) = 26) = decide (kJ tb b e j = 26) from rfl]
      by_cases c : kJ tb b e j = 26
      · rw [if_pos c] at hx
        rw [decide_eq_true c, if_pos rfl]; exact hx
      · rw [if_neg c] at hx
        rw [decide_eq_false c, if_neg Bool.false_ne_true]; exact hx
    by_cases c : kJ tb b e j = 26
    · left
      have h0 := hb (some (Sum.inr s)) (by rw [if_pos c])
      exact ⟨0, j, k, R, z, s, s0, lg, lp_e h0, c, ⟨rfl, hI, rsK_rf k s, fun _ _ _ => rfl, fun _ _ => rfl⟩, rfl, rfl⟩
    · rcases hs j k R z s s0 lg hI (fun x => absurd x c) (fun _ => by omega) with ⟨j1, k1, R1, z1, s1, s01, lg1, f1, ⟨f2, f3, f4, f5, f6⟩, f7⟩ | ⟨f, st, j1, s1, s01, lg1, f1, f2, f3, f4, f5⟩
      · have h0 := hb (some (Sum.inl s1)) (by rw [if_neg c, f1, ob_s])
        have hle := el_le f7
        have ih := p_inner hs v m N j1 k1 R1 z1 s1 s01 lg1 (by omega) (by omega) f3
        rw [lp_s h0, f2]
        rcases ih with ⟨n, j2, k2, R2, z2, s2, s02, lg2, g1, g2, ⟨g3, g4, g5, g6, g7⟩, g8⟩ | ⟨f, st, j2, s2, s02, lg2, g1, g2, g3, g4, g5⟩
        · left
          have e2 : el B lg2 (fun x => s2.2.2.1 4 (1440 + x)) (4 - (d + 1)) R R1 k k1 := el_cg (fun m i _ hi => g6 m i hi) (fun x _ hx => g5.2.2.2.2 (1440 + x) (by omega)) f7
          obtain ⟨n', e3⟩ := el_sg e2 g8
          exact ⟨n', j2, k2, R2, z2, s2, s02, lg2, g1, g2, ⟨g3, g4, rsK_tr f4 g5 (by omega), fun n i hi => (g6 n i (by omega)).trans (f5 n i hi), fun i hi => (g7 i hi).trans (f6 i hi)⟩, e3⟩
        · right
          exact ⟨f, st, j2, s2, s02, lg2, g1, g2, g3, rsK_tr f4 g4 (by omega), g5⟩
      · right
        have h0 := hb (some (Sum.inl s1)) (by rw [if_neg c, f3, ob_s])
        have h1 : (fun (q : RS) => X12_readStep_b140 rc (nI d) true v q) s1 = some (.inr s1) := by
          dsimp only [X12_readStep_b140]
          rw [if_pos rfl, if_neg (bad_eq f1)]
        rw [lp_s h0, show N = (N - 1) + 1 by omega, lp_e h1]
        exact ⟨f, st, j1, s1, s01, lg1, f1, f2, rfl, f4, f5⟩
/-- the END of a block -/
theorem p_end (hI : inV tb b e T q0 r B nm nmI j k R (d + 1) z s s0 lg) (hJ : kJ tb b e j = 26) (hw2 : w + 7 ≤ 1800) (hst : s0.2.2.1 3 d = nI a) (ha : a < R) : (∃ s' s0' lg' j', X12_readStep_j168 rc true (nI w) s = some (uA s' 4 (upd (s'.2.2.1 4) (w + 6) (nI k))) ∧ LPg r z true s0 (uI q0 10 (nI j)) lg = LPg r (z + 1) true s0' (uI q0 10 (nI j')) lg' ∧ inV tb b e T q0 r B nm nmI j' k (R + 1) d (z + 1) s' s0' lg' ∧ nxS s s' ∧ (∀ n i, n ≠ 7 → i ≠ R → lg'.2.2.1 n i = lg.2.2.1 n i) ∧ (∀ i, i ≠ R → i ≠ a → lg'.2.2.1 7 i = lg.2.2.1 7 i) ∧ lg'.2.2.1 7 a = nI R ∧ lg'.2.2.1 2 R = nI 26 ∧ lg'.2.2.1 7 R = nI a ∧ s0'.2.2.1 3 = s0.2.2.1 3) ∨ ∃ f st j' s' s0' lg', badR f s' ∧ s'.1 13 = nI st ∧ X12_readStep_j168 rc true (nI w) s = some (uA s' 4 (upd (s'.2.2.1 4) (w + 6) (nI k))) ∧ rsK k s s' ∧ LJg r (LPg r z true s0 (uI q0 10 (nI j)) lg) = some (s0', fltX f st (uI q0 10 (nI j')), lg') := by
  obtain ⟨h, h12, h46, h30, hl0, hl1, hRd, h4, hd3, hz, hl56, hB, hn, hn2⟩ := hI
  obtain ⟨t1, f1, f2, f3, f4⟩ := p_next h (by omega)
  have n1 := nx_12 f4 h12
  have n46 : t1.1 46 = nI k := (f4.1 46 (by omega)).trans h46
  rw [uI_uI] at f2 f3
  have hb := x_b12 (s0 := s0) (r := r) (z := z) h (by omega) (by omega) hl1
  have hbe : pX4_beginEnd s0 (uI q0 10 (nI j)) r lg (nI R) = some (true, uI s0 4 (nI d), uI q0 10 (nI (j + 1)), uI (uA (uA (uA lg 2 (upd (lg.2.2.1 2) R (nI 26))) 7 (upd (lg.2.2.1 7) R (nI a))) 7 (upd (upd (lg.2.2.1 7) R (nI a)) a (nI R))) 1 (nI (R + 1))) := by
    unfold pX4_beginEnd
    rw [h4, if_neg (show ¬ nI (d + 1) ≤ (0 : Int32) from nI_ge (a := 0) (by omega) (by omega)), if_pos (show nI R < (60 : Int32) from nI_lt (b := 60) (by omega) (by omega)), thn_eq, show (1 : Int32) = nI 1 from rfl, sbI (by omega), show d + 1 - 1 = d by omega, show (uI s0 4 (nI d)).1 4 = nI d from rfl, show (uI s0 4 (nI d)).2.2.1 3 = s0.2.2.1 3 from rfl, nI_clamp (show R < 2 ^ 31 by omega), nI_clamp (show d < 2 ^ 31 by omega), hst, nI_clamp (show a < 2 ^ 31 by omega)]
    simp (disch := omega) only [g_inT, thn_eq]
    rw [f2, ob_s]
    have e7 : (uA lg 2 (upd (lg.2.2.1 2) R (26 : Int32))).2.2.1 7 = lg.2.2.1 7 := uA_ne _ _ (by decide)
    rw [e7, uA_at, show (uA (uA (uA lg 2 (upd (lg.2.2.1 2) R (26 : Int32))) 7 (upd (lg.2.2.1 7) R (nI a))) 7 (upd (upd (lg.2.2.1 7) R (nI a)) a (nI R))).1 1 = nI R from hl1, nI_add]; rfl
  rw [if_pos hJ, hbe, ob_s, hJ] at hb
  have l2 : ∀ n i, n ≠ 7 → i ≠ R → (uI (uA (uA (uA lg 2 (upd (lg.2.2.1 2) R (nI 26))) 7 (upd (lg.2.2.1 7) R (nI a))) 7 (upd (upd (lg.2.2.1 7) R (nI a)) a (nI R))) 1 (nI (R + 1))).2.2.1 n i = lg.2.2.1 n i := fun n i hn hi => by
    show (uA (uA (uA lg 2 (upd (lg.2.2.1 2) R (nI 26))) 7 (upd (lg.2.2.1 7) R (nI a))) 7 (upd (upd (lg.2.2.1 7) R (nI a)) a (nI R))).2.2.1 n i = _
    rw [uA_ne _ _ hn, uA_ne _ _ hn]
    by_cases c : n = 2
    · rw [c, uA_at, upd_ne _ _ hi]
    · rw [uA_ne _ _ c]
  have l7 : ∀ i, (uI (uA (uA (uA lg 2 (upd (lg.2.2.1 2) R (nI 26))) 7 (upd (lg.2.2.1 7) R (nI a))) 7 (upd (upd (lg.2.2.1 7) R (nI a)) a (nI R))) 1 (nI (R + 1))).2.2.1 7 i = upd (upd (lg.2.2.1 7) R (nI a)) a (nI R) i := fun i => by
    show (uA (uA (uA lg 2 (upd (lg.2.2.1 2) R (nI 26))) 7 (upd (lg.2.2.1 7) R (nI a))) 7 (upd (upd (lg.2.2.1 7) R (nI a)) a (nI R))).2.2.1 7 i = _
    rw [uA_at]
  have l26 : (uI (uA (uA (uA lg 2 (upd (lg.2.2.1 2) R (nI 26))) 7 (upd (lg.2.2.1 7) R (nI a))) 7 (upd (upd (lg.2.2.1 7) R (nI a)) a (nI R))) 1 (nI (R + 1))).2.2.1 2 R = nI 26 := by
    show (uA (uA (uA lg 2 (upd (lg.2.2.1 2) R (nI 26))) 7 (upd (lg.2.2.1 7) R (nI a))) 7 (upd (upd (lg.2.2.1 7) R (nI a)) a (nI R))).2.2.1 2 R = _
    rw [uA_ne _ _ (by decide), uA_ne _ _ (by decide), uA_at, upd_at]
  have m0 : (uI (uA (uA (uA lg 2 (upd (lg.2.2.1 2) R (nI 26))) 7 (upd (lg.2.2.1 7) R (nI a))) 7 (upd (upd (lg.2.2.1 7) R (nI a)) a (nI R))) 1 (nI (R + 1))).1 0 = nI k := hl0
  have m1 : (uI (uA (uA (uA lg 2 (upd (lg.2.2.1 2) R (nI 26))) 7 (upd (lg.2.2.1 7) R (nI a))) 7 (upd (upd (lg.2.2.1 7) R (nI a)) a (nI R))) 1 (nI (R + 1))).1 1 = nI (R + 1) := rfl
  generalize uI (uA (uA (uA lg 2 (upd (lg.2.2.1 2) R (nI 26))) 7 (upd (lg.2.2.1 7) R (nI a))) 7 (upd (upd (lg.2.2.1 7) R (nI a)) a (nI R))) 1 (nI (R + 1)) = lg2 at *
  unfold X4_readLog_j75 pX4_readBody at hb
  rw [if_pos rfl] at hb
  iterate 15 rw [if_neg (by decide)] at hb
  rw [ob_s, if_pos rfl, show (31 : Int32) = nI 31 from rfl] at hb
  unfold X12_readStep_j168 X12_readStep_j188
  rw [if_pos rfl, r_isEnd h.1 h.2.2.1, ob_s, show decide (kR tb b e (tsq b e j) = 26) = true from decide_eq_true hJ, must_tr h12 f1, ob_s, r_isClose f3, ob_s, ad6]
  rcases must_t f3 n1 (k := 31) (by omega) with ⟨t3, g1, g2, g3, g4⟩ | ⟨f, g1, g2, g3, g4⟩
  · left
    rw [g1, ob_s, g_inT (by omega) (by omega), nI_clamp (by omega), thn_eq]
    rw [g2, ob_s, if_pos rfl, uI_uI] at hb
    rw [uI_uI] at g3
    unfold X4_readLog_j108 at hb
    rw [thn_eq, nI_1] at hb
    have n3 : t3.1 46 = nI k := (g4.1 46 (by omega)).trans n46
    have nx := nxS_tr f4 g4
    have nk : rsK k s t3 := rsK_nx nx
    refine ⟨t3, uI s0 4 (nI d), lg2, j + 1 + 1, by rw [n3], LP_s (by omega) hb, ⟨g3, nx_12 g4 n1, n3, h30, m0, m1, by omega, rfl, by omega, by omega, fun i hi => ?_, rsK_blk nk hB, ?_, ?_⟩, nx, l2, fun i h1 h2 => ?_, ?_, l26, ?_, rfl⟩
    · rw [l2 5 i (by decide) (by omega), l2 6 i (by decide) (by omega)]
      exact hl56 i (by omega)
    · unfold nmR; rw [nk.2.2.2.1]; exact hn
    · unfold nmR; rw [nk.2.2.2.1]; exact hn2
    · rw [l7, upd_ne _ _ h2, upd_ne _ _ h1]
    · rw [l7, upd_at]
    · rw [l7, upd_ne _ _ (by omega), upd_at]
  · right
    rw [g3, ob_s, g_inT (by omega) (by omega), nI_clamp (by omega), thn_eq]
    rw [g4, ob_s, if_neg Bool.false_ne_true] at hb
    unfold X4_readLog_j107 X4_readLog_j108 at hb
    rw [thn_eq, nI_1] at hb
    refine ⟨f, tsq b e (j + 1), j + 1, fltR f (tsq b e (j + 1)) t1, uI s0 4 (nI d), lg2, ⟨rfl, g1, g2⟩, rfl, ?_, rsK_tr (rsK_nx f4) (rsK_flt _) (Nat.le_refl _), ?_⟩
    · rw [show (fltR f (tsq b e (j + 1)) t1).1 46 = nI k from n46]
    · rw [LP_s (by omega) hb, LJ_f (by omega)]
end V
