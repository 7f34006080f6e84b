/-! TEXTS: a STEP begins in the class; its head, both ways -/
section V
variable {s q q0 r lg s0 : RS} {b : Nat → Nat} {e T j f st w a k R d z wd kd : Nat} {tb : Nat → Int64} {nm nmI : Nat → Nat} {B : Nat → Nat} {rc : RS → Int32 → Option RS}
theorem x_isEndT (h : prR tb b e T j s q) (hk : kJ tb b e j ≠ 33) : pX8_isEnd q = some false := by
  have hj := kJ_lt h hk
  obtain ⟨_, _, _, ⟨l1, l2, l3, _⟩, h10, _⟩ := h
  unfold pX8_isEnd
  rw [l2, h10, if_pos (nI_lt hj (by omega))]
theorem kJ_T (h : prR tb b e T j s q) (hk : kJ tb b e j = 33) : j = T := by
  obtain ⟨_, _, _, ⟨l1, l2, l3, l4, l5, l6, _, _⟩, h10, hj⟩ := h
  rcases Nat.lt_or_ge j T with c | c
  · exfalso
    have t := (l6 j c).1
    have hk' : kR tb b e (tsq b e j) = 33 := hk
    unfold kR at hk'
    rw [if_neg (by omega)] at hk'
    have : kdC tb b e (tsq b e j) ≤ 32 := by
      unfold kdC
      have l := fsN_le (fun i => decide (tb i = lN (w27 b (tsq b e j) (tkW b e (tsq b e j) - tsq b e j)))) 28
      split
      · split <;> omega
      · split
        · split <;> omega
        · split <;> omega
    omega
  · omega
theorem x_isEndE (h : prR tb b e T j s q) (hk : kJ tb b e j = 33) : pX8_isEnd q = some true := by
  have hj := kJ_T h hk
  obtain ⟨_, _, _, ⟨l1, l2, l3, _⟩, h10, _⟩ := h
  unfold pX8_isEnd
  rw [l2, h10, if_neg (nI_nlt (by omega) (by omega))]
/-- the first part of a round of the class's loop -/
theorem x_b12 (h : prR tb b e T j s q) (hk : kJ tb b e j ≠ 33) (hz : z ≤ 300) (hR : lg.1 1 = nI R) : X4_readLog_b12 true (nI z) s0 q r lg = if kJ tb b e j = 26 then (pX4_beginEnd s0 q r lg (nI R)).bind fun x9 => X4_readLog_j75 (nI z) (nI R) (nI (kJ tb b e j)) x9.1 x9.2.1 x9.2.2.1 r x9.2.2.2 else (pX4_beginStep s0 q r lg (nI R) (nI (kJ tb b e j))).bind fun x5 => X4_readLog_j75 (nI z) (nI R) (nI (kJ tb b e j)) x5.1 x5.2.1 x5.2.2.1 r x5.2.2.2 := by
  have hle' : kJ tb b e j ≤ 33 := kR_le tb b e (tsq b e j)
  unfold X4_readLog_b12
  rw [if_neg (show ¬ (300 : Int32) < nI z from nI_nlt (a := 300) (by omega) (by omega)), if_pos rfl, x_isEndT h hk, ob_s, if_neg Bool.false_ne_true, hR, thn_eq, x_kindHere h, ob_s, show (26 : Int32) = nI 26 from rfl, ifE (by omega) (by omega)]
theorem x_into (h : prR tb b e T j s q) (hz : z ≤ 300) (hR : lg.1 1 = nI R) (h0 : lg.1 0 = nI k) (hk : k < 30) (hR60 : R < 60) (h4 : s0.1 4 = nI d) (hp : wkP wd kd) (hi : pX4_isStep (nI wd) = some true) (e19 : wd = 19 ↔ kd = 6) (e25 : wd = 25 ↔ kd = 7) (hJ : kJ tb b e j = wd) (hd : (kd = 6 ∨ kd = 7) → d < 3) (hd3 : d ≤ 3) (ad : pX8_advance q = some (uI q 10 (nI (j + 1)))) : ∃ s01 lg1, X4_readLog_b12 true (nI z) s0 q r lg = X4_readLog_j75 (nI z) (nI R) (nI wd) true s01 (uI q 10 (nI (j + 1))) r lg1 ∧ lg1.1 0 = nI (k + 1) ∧ lg1.1 1 = nI (R + 1) ∧ lg1.2.2.1 2 R = nI wd ∧ (∀ n i, i ≠ R → lg1.2.2.1 n i = lg.2.2.1 n i) ∧ (∀ n, n ≠ 2 → lg1.2.2.1 n = lg.2.2.1 n) ∧ (∀ i, i < d → s01.2.2.1 3 i = s0.2.2.1 3 i) ∧ ((kd = 6 ∨ kd = 7) → s01.1 4 = nI (d + 1) ∧ s01.2.2.1 3 d = nI R) ∧ (¬ (kd = 6 ∨ kd = 7) → s01.1 4 = nI d) := by
  have hw8 := wk_le hp
  have e93 : ∀ s01 : RS, X4_beginStep_j93 (nI R) (nI wd) s01 q r lg = some (true, s01, uI q 10 (nI (j + 1)), uI (uI (uA lg 2 (upd (lg.2.2.1 2) R (nI wd))) 1 (nI (R + 1))) 0 (nI (k + 1))) := fun s01 => by
    unfold X4_beginStep_j93
    rw [g_inT hR60 (by omega), nI_clamp (by omega), thn_eq, thn_eq, thn_eq, ad, ob_s, show (uA lg 2 (upd (lg.2.2.1 2) R (nI wd))).1 1 = nI R from hR, nI_1, show (uI (uA lg 2 (upd (lg.2.2.1 2) R (nI wd))) 1 (nI (R + 1))).1 0 = nI k from h0, nI_1]
  have hb := x_b12 (s0 := s0) (r := r) h (by omega) hz hR
  rw [if_neg (by omega), hJ] at hb
  have hl : (∀ n i, i ≠ R → (uI (uI (uA lg 2 (upd (lg.2.2.1 2) R (nI wd))) 1 (nI (R + 1))) 0 (nI (k + 1))).2.2.1 n i = lg.2.2.1 n i) ∧ (∀ n, n ≠ 2 → (uI (uI (uA lg 2 (upd (lg.2.2.1 2) R (nI wd))) 1 (nI (R + 1))) 0 (nI (k + 1))).2.2.1 n = lg.2.2.1 n) := by
    constructor
    · intro n i hi
      show (uA lg 2 (upd (lg.2.2.1 2) R (nI wd))).2.2.1 n i = _
      by_cases c : n = 2
      · rw [c, uA_at, upd_ne _ _ hi]
      · rw [uA_ne _ _ c]
    · intro n hn
      exact uA_ne _ _ hn
  have h2 : (uI (uI (uA lg 2 (upd (lg.2.2.1 2) R (nI wd))) 1 (nI (R + 1))) 0 (nI (k + 1))).2.2.1 2 R = nI wd := by
    show (uA lg 2 (upd (lg.2.2.1 2) R (nI wd))).2.2.1 2 R = nI wd
    rw [uA_at, upd_at]
  have hbs : ∀ x, (if wd = 19 then X4_beginStep_j55 (nI R) (nI wd) s0 q r lg else if wd = 25 then X4_beginStep_j55 (nI R) (nI wd) s0 q r lg else X4_beginStep_j93 (nI R) (nI wd) s0 q r lg) = x → pX4_beginStep s0 q r lg (nI R) (nI wd) = x := fun x hx => by
    unfold pX4_beginStep
    rw [hi, ob_s, if_pos rfl, h0, if_neg (show ¬ (30 : Int32) ≤ nI k from nI_ge (b := 30) (by omega) (by omega)), if_pos (show nI R < (60 : Int32) from nI_lt (b := 60) hR60 (by omega)), show (19 : Int32) = nI 19 from rfl, show (25 : Int32) = nI 25 from rfl, ifE (by omega) (by omega), ifE (by omega) (by omega)]
    exact hx
  by_cases c67 : kd = 6 ∨ kd = 7
  · have d3 := hd c67
    have e55 : X4_beginStep_j55 (nI R) (nI wd) s0 q r lg = some (true, uI (uA s0 3 (upd (s0.2.2.1 3) d (nI R))) 4 (nI (d + 1)), uI q 10 (nI (j + 1)), uI (uI (uA lg 2 (upd (lg.2.2.1 2) R (nI wd))) 1 (nI (R + 1))) 0 (nI (k + 1))) := by
      unfold X4_beginStep_j55
      rw [h4, if_pos (show nI d < (3 : Int32) from nI_lt (b := 3) d3 (by omega)), g_inT (by omega) (by omega), nI_clamp (by omega), thn_eq, thn_eq, show (uA s0 3 (upd (s0.2.2.1 3) d (nI R))).1 4 = nI d from h4, nI_1, e93]
    have hs : pX4_beginStep s0 q r lg (nI R) (nI wd) = some (true, uI (uA s0 3 (upd (s0.2.2.1 3) d (nI R))) 4 (nI (d + 1)), uI q 10 (nI (j + 1)), uI (uI (uA lg 2 (upd (lg.2.2.1 2) R (nI wd))) 1 (nI (R + 1))) 0 (nI (k + 1))) := by
      refine hbs _ ?_
      by_cases c : wd = 19
      · rw [if_pos c]; exact e55
      · rw [if_neg c, if_pos (show wd = 25 by omega)]; exact e55
    rw [hs, ob_s] at hb
    refine ⟨_, _, hb, rfl, rfl, h2, hl.1, hl.2, fun i hi => ?_, fun _ => ⟨rfl, ?_⟩, fun c => absurd c67 c⟩
    · show (uA s0 3 (upd (s0.2.2.1 3) d (nI R))).2.2.1 3 i = _
      rw [uA_at, upd_ne _ _ (by omega)]
    · show (uA s0 3 (upd (s0.2.2.1 3) d (nI R))).2.2.1 3 d = _
      rw [uA_at, upd_at]
  · have hs : pX4_beginStep s0 q r lg (nI R) (nI wd) = some (true, s0, uI q 10 (nI (j + 1)), uI (uI (uA lg 2 (upd (lg.2.2.1 2) R (nI wd))) 1 (nI (R + 1))) 0 (nI (k + 1))) := by
      refine hbs _ ?_
      rw [if_neg (show ¬ wd = 19 by omega), if_neg (show ¬ wd = 25 by omega)]; exact e93 s0
    rw [hs, ob_s] at hb
    exact ⟨_, _, hb, rfl, rfl, h2, hl.1, hl.2, fun i hi => rfl, fun c => absurd c c67, fun _ => h4⟩
/-- both have the same fault behind a LOG's STEPS -/
def bothL (r q0 : RS) (k : Nat) (s : RS) (Ra : Option RS) (X : Option (Bool × RS × RS × RS)) : Prop := ∃ f st j' s' s0' lg', badR f s' ∧ s'.1 13 = nI st ∧ Ra = some s' ∧ rsK k s s' ∧ LJg r X = some (s0', fltX f st (uI q0 10 (nI j')), lg')
/-- the state between two STEPS -/
def inV (tb : Nat → Int64) (b : Nat → Nat) (e T : Nat) (q0 r : RS) (B nm nmI : Nat → Nat) (j k R d z : Nat) (s s0 lg : RS) : Prop :=
  prR tb b e T j s (uI q0 10 (nI j)) ∧ s.1 12 = nI 0 ∧ s.1 46 = nI k ∧ k ≤ 30 ∧ lg.1 0 = nI k ∧ lg.1 1 = nI R ∧ R + d ≤ 2 * k ∧ s0.1 4 = nI d ∧ d ≤ 3 ∧ z ≤ R ∧ (∀ i, R ≤ i → lg.2.2.1 5 i = nI 0 ∧ lg.2.2.1 6 i = nI 0) ∧ blk (s.2.2.1 4) 0 B ∧ nmR 0 (B 0) nm (s.2.2.2 5) (r.2.2.2 3) ∧ nmR 16 (B 1) nmI (s.2.2.2 5) (r.2.2.2 2)
theorem rsK_blk {s s' : RS} (h : rsK k s s') (hB : blk (s.2.2.1 4) 0 B) : blk (s'.2.2.1 4) 0 B := ⟨fun j hj => by rw [h.2.2.2.2 (0 + j) (by omega)]; exact hB.1 j hj, hB.2⟩
/-- a STEP's head: its words up to the sign -/
theorem p_head (hI : inV tb b e T q0 r B nm nmI j k R d z s s0 lg) (hw : wfB B) (hr1 : r.1 1 = nI (B 0)) (hr0 : r.1 0 = nI (B 1)) (hk : k < 30) (hp : wkP wd kd) (hs : stW wd = nI kd) (hi : pX4_isStep (nI wd) = some true) (e19 : wd = 19 ↔ kd = 6) (e25 : wd = 25 ↔ kd = 7) (hJ : kJ tb b e j = wd) (hd : (kd = 6 ∨ kd = 7) → d < 3) (hwk : w = 1440 + (137 + 7 * k)) : (∃ x8 s01 lg2 j2, pX12_readStep_f rc s (nI d) = ((a_loop (fun (q : RS) => X12_readStep_b140 rc (nI d) (decide (kd = 6 ∨ kd = 7)) (nI w) q) FU x8).bind fun (t11 : RS) => X12_readStep_j168 rc (decide (kd = 6 ∨ kd = 7)) (nI w) t11) ∧ LPg r z true s0 (uI q0 10 (nI j)) lg = LPg r (z + 1) true s01 (uI q0 10 (nI j2)) lg2 ∧ inV tb b e T q0 r B nm nmI j2 (k + 1) (R + 1) (if kd = 6 ∨ kd = 7 then d + 1 else d) (z + 1) x8 s01 lg2 ∧ rsK k s x8 ∧ enR B lg2 (fun x => x8.2.2.1 4 (1440 + x)) R k kd ∧ (∀ n i, i ≠ R → lg2.2.2.1 n i = lg.2.2.1 n i) ∧ (∀ i, i < d → s01.2.2.1 3 i = s0.2.2.1 3 i) ∧ ((kd = 6 ∨ kd = 7) → s01.2.2.1 3 d = nI R)) ∨ bothL r q0 k s (pX12_readStep_f rc s (nI d)) (LPg r z true s0 (uI q0 10 (nI j)) lg) := by
  obtain ⟨h, h12, h46, _, hl0, hl1, hRd, h4, hd3, hz, hl56, hB, hn, hn2⟩ := hI
  have hw8 := wk_le hp
  have hjT := kJ_lt h (by omega)
  obtain ⟨t, f1, f2, f3, f4, f5, f6, ad⟩ := r_into (rc := rc) h h12 h46 hk hp hJ hs hd hd3 hwk
  obtain ⟨s01, lg1, g1, g2, g3, g4, g5, g6, g7, g8, g9⟩ := x_into (z := z) (s0 := s0) (r := r) h (by omega) hl1 hl0 hk (by omega) h4 hp hi e19 e25 hJ hd hd3 ad
  rw [uI_uI] at f2 g1
  have hB1 := rsK_blk f5 hB
  have hnt : nmR 0 (B 0) nm (t.2.2.2 5) (r.2.2.2 3) := by unfold nmR; rw [f5.2.2.2.1]; exact hn
  have hnt2 : nmR 16 (B 1) nmI (t.2.2.2 5) (r.2.2.2 2) := by unfold nmR; rw [f5.2.2.2.1]; exact hn2
  have l5 : lg1.2.2.1 5 R = nI 0 := by rw [g6 5 (by decide)]; exact (hl56 R (Nat.le_refl _)).1
  have l6 : lg1.2.2.1 6 R = nI 0 := by rw [g6 6 (by decide)]; exact (hl56 R (Nat.le_refl _)).2
  rw [f1]
  unfold X4_readLog_j75 at g1
  rw [if_pos rfl] at g1
  rcases p_body (s0 := s01) (lg := lg1) f2 f3 hB1 hw hr1 hr0 hnt hnt2 hk hwk (show R < 60 by omega) hp f6 g4 l5 l6 with ⟨t2, j', lg2, k1, k2, k3, k4, k5, k6, k7⟩ | ⟨f, st, j', t2, lg', k1, k2, k3, k4, k5⟩
  · rw [k1, ob_s]
    rw [k2, ob_s, if_pos rfl] at g1
    rw [uI_uI] at k3 g1
    rw [r_isClose k3, ob_s]
    rw [show (31 : Int32) = nI 31 from rfl] at g1
    rcases must_t k3 k4 (k := 31) (by omega) with ⟨t3, m1, m2, m3, m4⟩ | ⟨f, m1, m2, m3, m4⟩
    · left
      rw [m1, ob_s]
      rw [m2, ob_s, if_pos rfl, uI_uI] at g1
      rw [uI_uI] at m3
      unfold X4_readLog_j108 at g1
      rw [thn_eq, nI_1] at g1
      have r3 : rsK k s t3 := rsK_tr (rsK_tr f5 (rsK_W k5 hwk) (Nat.le_refl _)) (rsK_nx m4) (Nat.le_refl _)
      refine ⟨t3, s01, lg2, j' + 1, rfl, LP_s (by omega) g1, ⟨m3, nx_12 m4 k4, ?_, by omega, ?_, ?_, ?_, ?_, ?_, by omega, ?_, rsK_blk r3 hB, ?_, ?_⟩, r3, ?_, ?_, g7, fun c => (g8 c).2⟩
      · rw [m4.1 46 (by omega), k5.1 46 (by omega), f4]
      · rw [k6.1, g2]
      · rw [k6.1, g3]
      · by_cases c : kd = 6 ∨ kd = 7
        · rw [if_pos c]; omega
        · rw [if_neg c]; omega
      · by_cases c : kd = 6 ∨ kd = 7
        · rw [if_pos c]; exact (g8 c).1
        · rw [if_neg c]; exact g9 c
      · by_cases c : kd = 6 ∨ kd = 7
        · rw [if_pos c]; have := hd c; omega
        · rw [if_neg c]; exact hd3
      · intro i hi
        rw [k6.2.2 5 i (by omega), k6.2.2 6 i (by omega), g5 5 i (by omega), g5 6 i (by omega)]
        exact hl56 i (by omega)
      · unfold nmR; rw [r3.2.2.2.1]; exact hn
      · unfold nmR; rw [r3.2.2.2.1]; exact hn2
      · rw [m4.2.2]; exact k7
      · intro n i hi
        rw [k6.2.2 n i hi, g5 n i hi]
    · right
      have hb : badR f (fltR f (tsq b e j') t2) := ⟨rfl, m1, m2⟩
      rw [m3, ob_s, tail_bad hb (by omega)]
      rw [m4, ob_s, if_neg Bool.false_ne_true] at g1
      unfold X4_readLog_j107 X4_readLog_j108 at g1
      rw [thn_eq, nI_1] at g1
      refine ⟨f, tsq b e j', j', uA (fltR f (tsq b e j') t2) 4 (upd ((fltR f (tsq b e j') t2).2.2.1 4) (w + 6) ((fltR f (tsq b e j') t2).1 46)), s01, lg2, hb, rfl, rfl, rsK_tr (rsK_tr (rsK_tr f5 (rsK_W k5 hwk) (Nat.le_refl _)) (rsK_flt _) (Nat.le_refl _)) (rsK_4 (k := k) (x := w + 6) _ _ (by omega)) (Nat.le_refl _), ?_⟩
      rw [LP_s (by omega) g1, LJ_f (by omega)]
  · right
    obtain ⟨t4, e4⟩ := is_close t2
    rw [k3, ob_s, e4, ob_s, must_bad k1, ob_s, tail_bad k1 (by omega)]
    rw [k5, ob_s, if_neg Bool.false_ne_true, uI_uI] at g1
    unfold X4_readLog_j107 X4_readLog_j108 at g1
    rw [thn_eq, nI_1] at g1
    refine ⟨f, st, j', uA t2 4 (upd (t2.2.2.1 4) (w + 6) (t2.1 46)), s01, lg', k1, k2, rfl, rsK_tr (rsK_tr f5 (rsK_W k4 hwk) (Nat.le_refl _)) (rsK_4 (k := k) (x := w + 6) _ _ (by omega)) (Nat.le_refl _), ?_⟩
    rw [LP_s (by omega) g1, LJ_f (by omega)]
end V
