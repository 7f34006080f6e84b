/-! TEXTS: all STEPS of a LOG, both ways -/
section V
variable {s q q0 r lg s0 : RS} {b : Nat → Nat} {e T j f st w a k R d z wd kd : Nat} {tb : Nat → Int64} {nm nmI : Nat → Nat} {B : Nat → Nat} {rc : RS → Int32 → Option RS}
theorem inV_4 (h : inV tb b e T q0 r B nm nmI j k R d z s s0 lg) {x : Nat} (hx : 114 ≤ x) (v : Int32) : inV tb b e T q0 r B nm nmI j k R d z (uA s 4 (upd (s.2.2.1 4) x v)) s0 lg := by
  obtain ⟨h, h12, h46, h30, hl0, hl1, hRd, h4, hd3, hz, hl56, hB, hn, hn2⟩ := h
  refine ⟨prR_4 h _, h12, h46, h30, hl0, hl1, hRd, h4, hd3, hz, hl56, ⟨fun j hj => ?_, hB.2⟩, hn, hn2⟩
  rw [uA_at, upd_ne _ _ (by omega)]; exact hB.1 j hj
theorem j83_bad (h : badR f s) (v1 v2 : Int32) (v3 : Bool) : X12_readStep_j83 rc v1 v2 v3 s = some s := by
  unfold X12_readStep_j83
  rw [if_neg (bad_le h)]
theorem j57_bad (h : badR f s) (v1 v2 : Int32) (v3 : Bool) : X12_readStep_j57 rc v1 v2 v3 s = some s := by
  unfold X12_readStep_j57
  rw [if_neg (bad_eq h), j83_bad h]
/-- a round that ends with a fault -/
theorem LP_bad {f st : Nat} (hz : z < 900) (h : X4_readLog_b12 true (nI z) s0 q r lg = X4_readLog_j75 (nI z) (nI R) (nI wd) false s0 (fltX f st q) r lg) : LJg r (LPg r z true s0 q lg) = some (s0, fltX f st q, lg) := by
  unfold X4_readLog_j75 X4_readLog_j107 X4_readLog_j108 at h
  rw [if_neg Bool.false_ne_true, thn_eq, nI_1] at h
  rw [LP_s (by omega) h, LJ_f (by omega)]
/-- no STEP begins here -/
theorem p_none (hI : inV tb b e T q0 r B nm nmI j k R d z s s0 lg) (h26 : kJ tb b e j = 26 → d = 0) (h33 : kJ tb b e j = 33 → 0 < d) (h1 : stW (kJ tb b e j) = m1I) (h2 : pX4_isStep (nI (kJ tb b e j)) = some false) : bothL r q0 k s (pX12_readStep_f rc s (nI d)) (LPg r z true s0 (uI q0 10 (nI j)) lg) := by
  obtain ⟨h, h12, h46, h30, hl0, hl1, hRd, h4, hd3, hz, hl56, hB, hn, hn2⟩ := hI
  have hle' : kJ tb b e j ≤ 33 := kR_le tb b e (tsq b e j)
  obtain ⟨w1, w2⟩ := p_wrong h h12
  have hF : ∃ F, 1 ≤ F ∧ F ≤ 7 ∧ (if kJ tb b e j = 32 then 1 else 2) = F := by
    by_cases c32 : kJ tb b e j = 32
    · rw [if_pos c32]; exact ⟨1, by omega, by omega, rfl⟩
    · rw [if_neg c32]; exact ⟨2, by omega, by omega, rfl⟩
  obtain ⟨F, F1, F2, F3⟩ := hF
  rw [F3] at w1 w2
  have hb : badR F (fltR F (tsq b e j) s) := ⟨rfl, F1, F2⟩
  have hr : pX12_readStep_f rc s (nI d) = some (fltR F (tsq b e j) s) := by
    unfold pX12_readStep_f X12_readStep_j22
    rw [r_stepWord h.1 h.2.2.1, ob_s, show stW (kR tb b e (tsq b e j)) = m1I from h1, if_neg (show ¬ m1I = (6 : Int32) by decide), if_neg (show ¬ m1I = (7 : Int32) by decide), if_neg (show ¬ (0 : Int32) ≤ m1I by decide), w1, ob_s, j31_bad hb]
  refine ⟨F, tsq b e j, j, _, s0, lg, hb, rfl, hr, rsK_flt s, ?_⟩
  by_cases c33 : kJ tb b e j = 33
  · have d0 := h33 c33
    have hb12 : (fun (y : Bool × Int32 × RS × RS × RS) => X4_readLog_b12 y.1 y.2.1 y.2.2.1 y.2.2.2.1 r y.2.2.2.2) (true, nI z, s0, uI q0 10 (nI j), lg) = some (.inr (true, s0, uI q0 10 (nI j), lg)) := by
      dsimp only [X4_readLog_b12]
      rw [if_neg (show ¬ (300 : Int32) < nI z from nI_nlt (a := 300) (by omega) (by omega)), if_pos rfl, x_isEndE h c33, ob_s, if_pos rfl]
    have hL : LPg r z true s0 (uI q0 10 (nI j)) lg = some (true, s0, uI q0 10 (nI j), lg) := by
      unfold LPg
      rw [show 100000 - z = (100000 - (z + 1)) + 1 by omega]
      exact lp_e hb12
    rw [hL]
    unfold LJg X4_readLog_j115
    rw [ob_s, if_pos rfl, h4, if_neg (show ¬ nI d ≤ (0 : Int32) from nI_ge (a := 0) (by omega) (by omega)), w2, ob_s]
  · have hx := x_b12 (s0 := s0) (r := r) (z := z) h c33 (by omega) hl1
    refine LP_bad (R := R) (wd := kJ tb b e j) (by omega) ?_
    rw [hx]
    by_cases c26 : kJ tb b e j = 26
    · have d0 := h26 c26
      rw [if_pos c26]
      unfold pX4_beginEnd X4_beginEnd_j13
      rw [h4, d0, if_pos (show nI 0 ≤ (0 : Int32) by decide), w2, ob_s, ob_s]
    · rw [if_neg c26]
      unfold pX4_beginStep
      rw [h2, ob_s, if_neg Bool.false_ne_true, w2, ob_s, ob_s]
/-- a STEP too many -/
theorem p_many (hI : inV tb b e T q0 r B nm nmI j k R d z s s0 lg) (hk : k = 30) (hp : wkP wd kd) (hs : stW wd = nI kd) (hi : pX4_isStep (nI wd) = some true) (hJ : kJ tb b e j = wd) : bothL r q0 k s (pX12_readStep_f rc s (nI d)) (LPg r z true s0 (uI q0 10 (nI j)) lg) := by
  obtain ⟨h, h12, h46, h30, hl0, hl1, hRd, h4, hd3, hz, hl56, hB, hn, hn2⟩ := hI
  have hw8 := wk_le hp
  obtain ⟨F1, F2⟩ := p_fail h h12 6
  have hb : badR 6 (fltR 6 (tsq b e j) s) := ⟨rfl, by omega, by omega⟩
  have hr : pX12_readStep_f rc s (nI d) = some (fltR 6 (tsq b e j) s) := by
    have e31 : ∀ bl, X12_readStep_j31 rc (nI d) (nI kd) bl s = some (fltR 6 (tsq b e j) s) := fun bl => by
      unfold X12_readStep_j31
      rw [h12, if_pos (show nI 0 = (0 : Int32) from rfl), h46, hk, if_pos (show nI 30 = (30 : Int32) from rfl), show (6 : Int32) = nI 6 from rfl, F1, ob_s, j57_bad hb]
    unfold pX12_readStep_f X12_readStep_j17 X12_readStep_j22
    rw [r_stepWord h.1 h.2.2.1, ob_s, show kR tb b e (tsq b e j) = wd from hJ, hs, if_pos (show (0 : Int32) ≤ nI kd from nI_le (a := 0) (by omega) (by omega)), if_pos (show (0 : Int32) ≤ nI kd from nI_le (a := 0) (by omega) (by omega)), e31, e31]
    by_cases c6 : nI kd = (6 : Int32)
    · rw [if_pos c6]
    · rw [if_neg c6]
      by_cases c7 : nI kd = (7 : Int32)
      · rw [if_pos c7]
      · rw [if_neg c7]
  refine ⟨6, tsq b e j, j, _, s0, lg, hb, rfl, hr, rsK_flt s, ?_⟩
  have hx := x_b12 (s0 := s0) (r := r) (z := z) h (by omega) (by omega) hl1
  refine LP_bad (R := R) (wd := kJ tb b e j) (by omega) ?_
  rw [hx, if_neg (by omega), hJ]
  unfold pX4_beginStep X4_beginStep_j33
  rw [hi, ob_s, if_pos rfl, hl0, hk, if_pos (show (30 : Int32) ≤ nI 30 by decide), show (6 : Int32) = nI 6 from rfl, F2, ob_s, ob_s]
/-- a block too deep -/
theorem p_deep (hI : inV tb b e T q0 r B nm nmI j k R d z s s0 lg) (hk : k < 30) (hd : d = 3) (hp : wkP wd kd) (hs : stW wd = nI kd) (hi : pX4_isStep (nI wd) = some true) (e19 : wd = 19 ↔ kd = 6) (e25 : wd = 25 ↔ kd = 7) (hJ : kJ tb b e j = wd) (c67 : kd = 6 ∨ kd = 7) : bothL r q0 k s (pX12_readStep_f rc s (nI d)) (LPg r z true s0 (uI q0 10 (nI j)) lg) := by
  obtain ⟨h, h12, h46, h30, hl0, hl1, hRd, h4, hd3, hz, hl56, hB, hn, hn2⟩ := hI
  have hw8 := wk_le hp
  obtain ⟨F1, F2⟩ := p_fail h h12 7
  have hb : badR 7 (fltR 7 (tsq b e j) s) := ⟨rfl, by omega, by omega⟩
  have hr : pX12_readStep_f rc s (nI d) = some (fltR 7 (tsq b e j) s) := by
    have e31 : X12_readStep_j31 rc (nI d) (nI kd) true s = some (fltR 7 (tsq b e j) s) := by
      unfold X12_readStep_j31 X12_readStep_j57
      rw [h12, if_pos (show nI 0 = (0 : Int32) from rfl), h46, if_neg (show ¬ nI k = (30 : Int32) from fun x => by have := (nI_eq (b := 30) (by omega) (by omega)).mp x; omega), if_pos (show nI 0 = (0 : Int32) from rfl), if_pos rfl, hd, if_pos (show nI 3 = (3 : Int32) from rfl), show (7 : Int32) = nI 7 from rfl, F1, ob_s, j83_bad hb]
    unfold pX12_readStep_f X12_readStep_j17 X12_readStep_j22
    rw [r_stepWord h.1 h.2.2.1, ob_s, show kR tb b e (tsq b e j) = wd from hJ, hs, if_pos (show (0 : Int32) ≤ nI kd from nI_le (a := 0) (by omega) (by omega)), e31]
    rcases c67 with rfl | rfl
    · rw [if_pos (show nI 6 = (6 : Int32) from rfl)]
    · rw [if_neg (show ¬ nI 7 = (6 : Int32) by decide), if_pos (show nI 7 = (7 : Int32) from rfl)]
  refine ⟨7, tsq b e j, j, _, s0, lg, hb, rfl, hr, rsK_flt s, ?_⟩
  have hx := x_b12 (s0 := s0) (r := r) (z := z) h (by omega) (by omega) hl1
  refine LP_bad (R := R) (wd := kJ tb b e j) (by omega) ?_
  have e55 : X4_beginStep_j55 (nI R) (nI wd) s0 (uI q0 10 (nI j)) r lg = some (false, s0, fltX 7 (tsq b e j) (uI q0 10 (nI j)), lg) := by
    unfold X4_beginStep_j55
    rw [h4, hd, if_neg (show ¬ nI 3 < (3 : Int32) by decide), show (7 : Int32) = nI 7 from rfl, F2, ob_s]
  rw [hx, if_neg (by omega), hJ]
  unfold pX4_beginStep
  rw [hi, ob_s, if_pos rfl, hl0, if_neg (show ¬ (30 : Int32) ≤ nI k from nI_ge (b := 30) (by omega) (by omega)), if_pos (show nI R < (60 : Int32) from nI_lt (b := 60) (by omega) (by omega)), e55]
  rcases c67 with c | c
  · rw [show wd = 19 from e19.mpr c, if_pos (show nI 19 = (19 : Int32) from rfl), ob_s]
  · rw [show wd = 25 from e25.mpr c, if_neg (show ¬ nI 25 = (19 : Int32) by decide), if_pos (show nI 25 = (25 : Int32) from rfl), ob_s]
theorem p_step (hw : wfB B) (hr1 : r.1 1 = nI (B 0)) (hr0 : r.1 0 = nI (B 1)) : ∀ n d, d ≤ 3 → 4 ≤ n + d → stepOK tb b e T q0 r B nm nmI (pX12_readStep n) d
  | 0, d, h1, h2 => by omega
  | n + 1, d, hd, hn4 => by
    intro j k R z s s0 lg hI h26 h33
    show (∃ j' k' R' z' s' s0' lg', pX12_readStep_f (pX12_readStep n) s (nI d) = some s' ∧ _) ∨ bothL r q0 k s (pX12_readStep_f (pX12_readStep n) s (nI d)) _
    have hle' : kJ tb b e j ≤ 33 := kR_le tb b e (tsq b e j)
    have h30 := hI.2.2.2.1
    have hRd := hI.2.2.2.2.2.2.1
    rcases st_c _ hle' with ⟨m1, m2⟩ | ⟨kd, hp, hs, hi, e19, e25⟩
    · exact Or.inr (p_none hI h26 h33 m1 m2)
    · by_cases k30 : k = 30
      · exact Or.inr (p_many hI k30 hp hs hi rfl)
      · by_cases dd : (kd = 6 ∨ kd = 7) ∧ d = 3
        · exact Or.inr (p_deep hI (by omega) dd.2 hp hs hi e19 e25 rfl dd.1)
        · have hwk : (1440 + (137 + 7 * k) : Nat) = 1440 + (137 + 7 * k) := rfl
          rcases p_head (rc := pX12_readStep n) hI hw hr1 hr0 (by omega) hp hs hi e19 e25 rfl (fun c => by omega) hwk with ⟨x8, s01, lg2, j2, f1, f2, f3, f4, f5, f6, f7, f8⟩ | hf
          · by_cases c67 : kd = 6 ∨ kd = 7
            · rw [decide_eq_true c67] at f1
              rw [if_pos c67] at f3
              rw [f1, f2]
              rcases p_inner (p_step hw hr1 hr0 n (d + 1) (by omega) (by omega)) (nI (1440 + (137 + 7 * k))) 31 FU j2 (k + 1) (R + 1) (z + 1) x8 s01 lg2 (by omega) (by decide) f3 with ⟨nn, j3, k3, R3, z3, s3, s03, lg3, g1, g2, ⟨g3, g4, g5, g6, g7⟩, g8⟩ | ⟨f, st, j3, s3, s03, lg3, g1, g2, g3, g4, g5⟩
              · have sl := sg_le _ _ _ _ _ _ g8
                have hst : s03.2.2.1 3 d = nI R := (g7 d (by omega)).trans (f8 c67)
                rw [g1, ob_s, g3]
                rcases p_end (rc := pX12_readStep n) (w := 1440 + (137 + 7 * k)) g4 g2 (by omega) hst (by omega) with ⟨s4, s04, lg4, j4, m1, m2, m3, m4, m5, m6, m7, m8, m9, m10⟩ | ⟨f, st, j4, s4, s04, lg4, m1, m2, m3, m4, m5⟩
                · left
                  rw [m1, m2]
                  have r4 : rsK k s s4 := rsK_tr (rsK_tr f4 g5 (by omega)) (rsK_nx (k := k) m4) (Nat.le_refl _)
                  have c4 : ∀ x, x ≠ 1440 + (137 + 7 * k) + 6 → (uA s4 4 (upd (s4.2.2.1 4) (1440 + (137 + 7 * k) + 6) (nI k3))).2.2.1 4 x = s3.2.2.1 4 x := fun x hx => by
                    rw [uA_at, upd_ne _ _ hx, m4.2.2]
                  have c4' : (uA s4 4 (upd (s4.2.2.1 4) (1440 + (137 + 7 * k) + 6) (nI k3))).2.2.1 4 (1440 + (137 + 7 * k + 6)) = nI k3 := by
                    rw [uA_at, show 1440 + (137 + 7 * k + 6) = 1440 + (137 + 7 * k) + 6 by omega, upd_at]
                  refine ⟨j4, k3, R3 + 1, z3 + 1, _, s04, lg4, rfl, ⟨rfl, inV_4 m3 (by omega) _, rsK_tr r4 (rsK_4 (k := k) (x := 1440 + (137 + 7 * k) + 6) _ _ (by omega)) (Nat.le_refl _), fun n i hi => ?_, fun i hi => ?_⟩, Or.inr ⟨nn, 4 - (d + 1), R3, by omega, ?_, m7, m8, m9, c4', ?_, rfl⟩⟩
                  · by_cases n7 : n = 7
                    · rw [n7, m6 i (by omega) (by omega), g6 7 i (by omega), f6 7 i (by omega)]
                    · rw [m5 n i n7 (by omega), g6 n i (by omega), f6 n i (by omega)]
                  · rw [m10, g7 i (by omega), f7 i hi]
                  · have hl : ∀ n, n ≠ 7 → lg4.2.2.1 n R = lg2.2.2.1 n R := fun n hn => by rw [m5 n R hn (by omega), g6 n R (by omega)]
                    have h0 : (uA s4 4 (upd (s4.2.2.1 4) (1440 + (137 + 7 * k) + 6) (nI k3))).2.2.1 4 (1440 + (137 + 7 * k)) = x8.2.2.1 4 (1440 + (137 + 7 * k)) := by rw [c4 _ (by omega), g5.2.2.2.2 _ (by omega)]
                    have hi : ∀ i, i < 6 → (uA s4 4 (upd (s4.2.2.1 4) (1440 + (137 + 7 * k) + 6) (nI k3))).2.2.1 4 (1440 + (137 + 7 * k + i)) = x8.2.2.1 4 (1440 + (137 + 7 * k + i)) := fun i hi => by rw [c4 _ (by omega), g5.2.2.2.2 _ (by omega)]
                    unfold enR at f5
                    rcases c67 with c | c
                    · rw [if_pos c] at f5
                      exact Or.inl (opW_cg (c := fun x => x8.2.2.1 4 (1440 + x)) hl h0 hi f5)
                    · rw [if_neg (by omega), if_pos c] at f5
                      exact Or.inr (opL_cg (c := fun x => x8.2.2.1 4 (1440 + x)) hl h0 hi f5)
                  · refine sg_cg (c := fun x => s3.2.2.1 4 (1440 + x)) nn _ _ _ _ _ (fun m i i1 i2 => ?_) (fun x x1 x2 => c4 _ (by omega)) g8
                    by_cases n7 : m = 7
                    · rw [n7, m6 i (by omega) (by omega)]
                    · rw [m5 m i n7 (by omega)]
                · right
                  rw [m3]
                  exact ⟨f, st, j4, uA s4 4 (upd (s4.2.2.1 4) (1440 + (137 + 7 * k) + 6) (nI k3)), s04, lg4, m1, m2, rfl, rsK_tr (rsK_tr (rsK_tr f4 g5 (by omega)) m4 (by omega)) (rsK_4 (k := k) (x := 1440 + (137 + 7 * k) + 6) _ _ (by omega)) (Nat.le_refl _), m5⟩
              · right
                rw [g3, ob_s, j168_bad g1 (by omega)]
                exact ⟨f, st, j3, uA s3 4 (upd (s3.2.2.1 4) (1440 + (137 + 7 * k) + 6) (s3.1 46)), s03, lg3, g1, g2, rfl, rsK_tr (rsK_tr f4 g4 (by omega)) (rsK_4 (k := k) (x := 1440 + (137 + 7 * k) + 6) _ _ (by omega)) (Nat.le_refl _), g5⟩
            · left
              rw [decide_eq_false c67] at f1
              rw [if_neg c67] at f3
              have h0 : (fun (q : RS) => X12_readStep_b140 (pX12_readStep n) (nI d) false (nI (1440 + (137 + 7 * k))) q) x8 = some (.inr x8) := by
                dsimp only [X12_readStep_b140]
                rw [if_neg Bool.false_ne_true]
              have x46 : x8.1 46 = nI (k + 1) := f3.2.2.1
              rw [f1, f2, show FU = 99999 + 1 from rfl, lp_e h0, ob_s]
              unfold X12_readStep_j168 X12_readStep_j188
              rw [if_neg Bool.false_ne_true, ad6, g_inT (by omega) (by omega), nI_clamp (by omega), thn_eq, x46]
              refine ⟨j2, k + 1, R + 1, z + 1, _, s01, lg2, rfl, ⟨rfl, inV_4 f3 (by omega) _, rsK_tr f4 (rsK_4 (k := k) (x := 1440 + (137 + 7 * k) + 6) _ _ (by omega)) (Nat.le_refl _), fun n i hi => f6 n i (by omega), f7⟩, Or.inl ⟨?_, ?_, rfl, rfl⟩⟩
              · unfold enR at f5
                rw [if_neg (by omega), if_neg (by omega)] at f5
                refine smR_cg (c := fun x => x8.2.2.1 4 (1440 + x)) (fun _ => rfl) ?_ (fun i hi => ?_) f5
                · rw [uA_at, upd_ne _ _ (by omega)]
                · rw [uA_at, upd_ne _ _ (by omega)]
              · show (uA x8 4 (upd (x8.2.2.1 4) (1440 + (137 + 7 * k) + 6) (nI (k + 1)))).2.2.1 4 (1440 + (137 + 7 * k + 6)) = nI (k + 1)
                rw [uA_at, show 1440 + (137 + 7 * k + 6) = 1440 + (137 + 7 * k) + 6 by omega, upd_at]
          · exact Or.inr hf
/-- all STEPS -/
theorem p_top (hs : stepOK tb b e T q0 r B nm nmI (pX12_readStep 20) 0) : ∀ (m N j k R z : Nat) (s s0 lg : RS), 31 - k ≤ m → m + 1 < N → inV tb b e T q0 r B nm nmI j k R 0 z s s0 lg →
    (∃ n j' k' R' z' s' s0' lg', a_loop (fun (q : RS) => X12_log_b28 q) N s = some s' ∧ LJg r (LPg r z true s0 (uI q0 10 (nI j)) lg) = some (s0', uI q0 10 (nI j'), lg') ∧ inV tb b e T q0 r B nm nmI j' k' R' 0 z' s' s0' lg' ∧ rsK k s s' ∧ (∀ n i, i < R → lg'.2.2.1 n i = lg.2.2.1 n i) ∧ sg B lg' (fun x => s'.2.2.1 4 (1440 + x)) n 4 R R' k k') ∨ bothL r q0 k s (a_loop (fun (q : RS) => X12_log_b28 q) N s) (LPg r z true s0 (uI q0 10 (nI j)) lg)
  | 0, N, j, k, R, z, s, s0, lg, hm, hN, hI => by
    obtain ⟨_, _, _, h30, _⟩ := hI
    omega
  | m + 1, 0, j, k, R, z, s, s0, lg, hm, hN, hI => by omega
  | m + 1, N + 1, j, k, R, z, s, s0, lg, hm, hN, hI => by
    have h := hI.1
    have h12 := hI.2.1
    have tk := (r_tok h).2.2.2
    have hb : ∀ x, (if kJ tb b e j = 33 then some (Sum.inr s) else (pX12_readStep 20 s (nI 0)).bind fun x10 => some (Sum.inl x10)) = x → (fun (q : RS) => X12_log_b28 q) s = x := fun x hx => by
      dsimp only [X12_log_b28]
      rw [h12, if_pos (show nI 0 = (0 : Int32) from rfl)]
      by_cases c : kJ tb b e j = 33
      · rw [if_pos c] at hx
        rw [if_pos (show s.1 14 = (0 : Int32) from tk.mpr c)]; exact hx
      · rw [if_neg c] at hx
        rw [if_neg (show ¬ s.1 14 = (0 : Int32) from fun x => c (tk.mp x))]; exact hx
    by_cases c : kJ tb b e j = 33
    · left
      have h0 := hb (some (Sum.inr s)) (by rw [if_pos c])
      refine ⟨0, j, k, R, z, s, s0, lg, lp_e h0, ?_, hI, rsK_rf k s, fun _ _ _ => rfl, rfl, rfl⟩
      obtain ⟨_, _, h46, h30, hl0, hl1, hRd, h4, hd3, hz, hl56, hB, hn, hn2⟩ := hI
      have hb12 : (fun (y : Bool × Int32 × RS × RS × RS) => X4_readLog_b12 y.1 y.2.1 y.2.2.1 y.2.2.2.1 r y.2.2.2.2) (true, nI z, s0, uI q0 10 (nI j), lg) = some (.inr (true, s0, uI q0 10 (nI j), lg)) := by
        dsimp only [X4_readLog_b12]
        rw [if_neg (show ¬ (300 : Int32) < nI z from nI_nlt (a := 300) (by omega) (by omega)), if_pos rfl, x_isEndE h c, ob_s, if_pos rfl]
      have hL : LPg r z true s0 (uI q0 10 (nI j)) lg = some (true, s0, uI q0 10 (nI j), lg) := by
        unfold LPg
        rw [show 100000 - z = (100000 - (z + 1)) + 1 by omega]
        exact lp_e hb12
      rw [hL]
      unfold LJg X4_readLog_j115
      rw [ob_s, if_pos rfl, h4, if_pos (show nI 0 ≤ (0 : Int32) by decide)]
    · rcases hs j k R z s s0 lg hI (fun _ => rfl) (fun x => absurd x c) with ⟨j1, k1, R1, z1, s1, s01, lg1, f1, ⟨f2, f3, f4, f5, f6⟩, f7⟩ | ⟨f, st, j1, s1, s01, lg1, f1, f2, f3, f4, f5⟩
      · have h0 := hb (some (Sum.inl s1)) (by rw [if_neg c, f1, ob_s])
        have hle := el_le f7
        have ih := p_top hs m N j1 k1 R1 z1 s1 s01 lg1 (by omega) (by omega) f3
        rw [lp_s h0, f2]
        rcases ih with ⟨n, j2, k2, R2, z2, s2, s02, lg2, g1, g2, g4, g5, g6, g8⟩ | ⟨f, st, j2, s2, s02, lg2, g1, g2, g3, g4, g5⟩
        · left
          have e2 : el B lg2 (fun x => s2.2.2.1 4 (1440 + x)) 4 R R1 k k1 := el_cg (fun m i _ hi => g6 m i hi) (fun x _ hx => g5.2.2.2.2 (1440 + x) (by omega)) f7
          obtain ⟨n', e3⟩ := el_sg e2 g8
          exact ⟨n', j2, k2, R2, z2, s2, s02, lg2, g1, g2, g4, rsK_tr f4 g5 (by omega), fun n i hi => (g6 n i (by omega)).trans (f5 n i hi), e3⟩
        · right
          exact ⟨f, st, j2, s2, s02, lg2, g1, g2, g3, rsK_tr f4 g4 (by omega), g5⟩
      · right
        have h0 := hb (some (Sum.inl s1)) (by rw [if_neg c, f3, ob_s])
        have h1 : (fun (q : RS) => X12_log_b28 q) s1 = some (.inr s1) := by
          dsimp only [X12_log_b28]
          rw [if_neg (bad_eq f1)]
        rw [lp_s h0, show N = (N - 1) + 1 by omega, lp_e h1]
        exact ⟨f, st, j1, s1, s01, lg1, f1, f2, rfl, f4, f5⟩
end V
