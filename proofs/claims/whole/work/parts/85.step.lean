/-! THE VOYAGE: a simple STEP -/
def smR (B : Nat → Nat) (lg : RS) (c : Nat → Int32) (a k : Nat) : Prop :=
  (∃ kd x i, (kd = 0 ∨ kd = 2 ∨ kd = 3) ∧ x < B 0 ∧ i < B 1 ∧ lg.2.2.1 2 a = nI (wdA kd) ∧ lg.2.2.1 3 a = nI i ∧ lg.2.2.1 4 a = nI x ∧ c (137 + 7 * k) = nI kd ∧ c (137 + 7 * k + 1) = nI x ∧ c (137 + 7 * k + 2) = nI i) ∨
  (∃ x y d tw, x < B 1 ∧ y < B 1 ∧ d ≤ 9 ∧ tw ≤ 1 ∧ lg.2.2.1 2 a = nI 13 ∧ lg.2.2.1 3 a = nI x ∧ lg.2.2.1 4 a = nI y ∧ lg.2.2.1 5 a = nI d ∧ lg.2.2.1 6 a = nI tw ∧ c (137 + 7 * k) = nI 1 ∧ c (137 + 7 * k + 1) = nI x ∧ c (137 + 7 * k + 2) = nI y ∧ c (137 + 7 * k + 3) = nI d ∧ c (137 + 7 * k + 4) = nI tw) ∨
  (∃ n, 1 ≤ n ∧ n ≤ 99 ∧ lg.2.2.1 2 a = nI 24 ∧ lg.2.2.1 5 a = nI n ∧ c (137 + 7 * k) = nI 4 ∧ c (137 + 7 * k + 1) = nI n) ∨
  (∃ n, n ≤ 16 ∧ lg.2.2.1 2 a = nI 23 ∧ lg.2.2.1 5 a = nI n ∧ c (137 + 7 * k) = nI 5 ∧ c (137 + 7 * k + 1) = nI n) ∨
  (lg.2.2.1 2 a = nI 27 ∧ c (137 + 7 * k) = nI 8)
def eV (c : Nat → Int32) (s : RS) : Prop := ∀ j, (j < 114 ∨ 118 ≤ j) → s.2.2.1 4 j = c j
def rU (s s' : RS) : Prop := (∀ j, (j < 35 ∨ 45 ≤ j ∨ j = 43) → s'.1 j = s.1 j) ∧ s'.2.1 = s.2.1 ∧ s'.2.2.2 = s.2.2.2 ∧ (∀ n, (n < 4 ∨ (4 < n ∧ n < 10) ∨ 13 < n) → s'.2.2.1 n = s.2.2.1 n) ∧ ∀ j, (j < 114 ∨ 118 ≤ j) → s'.2.2.1 4 j = s.2.2.1 4 j
theorem rU_rf (s : RS) : rU s s := ⟨fun _ _ => rfl, rfl, rfl, fun _ _ => rfl, fun _ _ => rfl⟩
theorem rU_tr {a b c : RS} (h : rU a b) (k : rU b c) : rU a c := ⟨fun j hj => (k.1 j hj).trans (h.1 j hj), k.2.1.trans h.2.1, k.2.2.1.trans h.2.2.1, fun n hn => (k.2.2.2.1 n hn).trans (h.2.2.2.1 n hn), fun j hj => (k.2.2.2.2 j hj).trans (h.2.2.2.2 j hj)⟩
theorem rU_V {s s' : RS} (h : rV s s') : rU s s' := ⟨fun j hj => h.1 j (by omega), h.2⟩
theorem rU_44 (s : RS) (v : Int32) : rU s (uI s 44 v) := ⟨fun j hj => if_neg (show ¬ j = 44 by omega), rfl, rfl, fun _ _ => rfl, fun _ _ => rfl⟩
theorem rU_e {c : Nat → Int32} {s s' : RS} (h : rU s s') (e : eV c s) : eV c s' := fun j hj => (h.2.2.2.2 j hj).trans (e j hj)
theorem eV_blk {c : Nat → Int32} {s : RS} {B : Nat → Nat} (e : eV c s) (h : blk c 0 B) : blk (s.2.2.1 4) 0 B := ⟨fun j hj => by rw [e (0 + j) (by omega)]; exact h.1 j hj, h.2⟩
def inc (v : VS) : VS := (v.1, (v.2.1.1 + 1, v.2.1.2), v.2.2)
theorem vrR_inc {v : VS} {s : RS} (h : vrR v s) : vrR (inc v) (uI s 38 (s.1 38 + (1 : Int32))) := by
  refine ⟨h.1, ⟨?_, h.2.1.2⟩, h.2.2⟩
  show s.1 38 + (1 : Int32) = _
  rw [h.2.1.1, nI_1]; rfl
theorem vrX_inc {v : VS} {q : RS} (h : vrX v q) : vrX (inc v) (uI q 1 (q.1 1 + (1 : Int32))) := by
  refine ⟨h.1, ⟨?_, h.2.1.2⟩, h.2.2⟩
  show q.1 1 + (1 : Int32) = _
  rw [h.2.1.1, nI_1]; rfl
theorem vW_inc {B : Nat → Nat} {v : VS} (h : vW B v) (hd : v.2.1.1 < 300) : vW B (inc v) ∧ (inc v).2.2.1.1 < (inc v).2.1.1 ∧ (inc v).2.1.2.1 + 99 ≤ 99 * (inc v).2.1.1 :=
  ⟨⟨h.1, hd, by have := h.2.2.1; show v.2.1.2.1 ≤ 99 * (v.2.1.1 + 1); omega, by have := h.2.2.2.1; show v.2.2.1.1 ≤ v.2.1.1 + 1; omega, h.2.2.2.2⟩, by have := h.2.2.2.1; show v.2.2.1.1 < v.2.1.1 + 1; omega, by have := h.2.2.1; show v.2.1.2.1 + 99 ≤ 99 * (v.2.1.1 + 1); omega⟩
theorem w7 (k : Nat) : (137 : Int32) + (7 : Int32) * nI k = nI (137 + 7 * k) := by
  rw [show (7 : Int32) = nI 7 from rfl, pk_mul, show (137 : Int32) = nI 137 from rfl, nI_add]
section V
variable {s q r lg : RS} {B : Nat → Nat} {v : VS} {c : Nat → Int32}
theorem x_j123 {a : Nat} {v' : VS} {y : Bool} {q' : RS} (h : pX10_doStep q r lg (nI a) = some (y, q')) (h2 : vrX v' (if y = true then q' else uI q' 3 (q'.1 3 + (1 : Int32)))) (h3 : qV q q') : ∃ q2, X10_rowAfterStep_j123 (nI a) q r lg = some (nI (a + 1), q2) ∧ vrX v' q2 ∧ qV q q2 := by
  unfold X10_rowAfterStep_j123
  rw [h, ob_s]
  cases y with
  | true => exact ⟨q', by rw [if_pos rfl, nI_1], h2, h3⟩
  | false => exact ⟨uI q' 3 (q'.1 3 + (1 : Int32)), by rw [if_neg Bool.false_ne_true, thn_eq, nI_1], h2, h3⟩
theorem sm_ok (rc : RS → Int32 → Option RS) (hB : blk c 0 B) (hw : wfB B) (e : eV c s) (hR : bkR B r) (hv : vW B v) (hs : vrR v s) (hq : vrX v q) (hd : v.2.1.1 < 300) {a k : Nat} (ha : a < 60) (hk : k < 30) (h : smR B lg c a k) : ∃ v' s' y q', pX12_doOne_f rc s (nI k) = some s' ∧ vrR v' s' ∧ rU s s' ∧ vW B v' ∧ v'.2.1.1 = v.2.1.1 + 1 ∧ pX10_rowAfterStep q r lg (nI a) = some (y, q') ∧ vrX v' q' ∧ qV q q' ∧ ((y = nI (a + 1) ∧ s'.1 44 = s.1 44) ∨ (y = m1I ∧ s'.1 44 = nI 1)) ∧ ¬ lg.2.2.1 2 a = (26 : Int32) := by
  have h1 := vrR_inc hs
  have x1 := vrX_inc hq
  have n300 : ¬ s.1 38 = (300 : Int32) := by
    rw [hs.2.1.1]
    exact fun q => by have := (nI_eq (b := 300) (by omega) (by omega)).mp q; omega
  have l300 : q.1 1 < (300 : Int32) := by rw [hq.2.1.1]; exact nI_lt (b := 300) hd (by omega)
  obtain ⟨hv1, hn1, hd1⟩ := vW_inc hv hd
  have u1 : rU s (uI s 38 (s.1 38 + (1 : Int32))) := rU_V (rV_uI _ _ (by omega))
  have k44 : (uI s 38 (s.1 38 + (1 : Int32))).1 44 = s.1 44 := rfl
  have k15 : qV q (uI q 1 (q.1 1 + (1 : Int32))) := rfl
  have e1 : eV c (uI s 38 (s.1 38 + (1 : Int32))) := e
  have B1 := eV_blk e1 hB
  unfold pX12_doOne_f pX10_rowAfterStep
  rw [if_neg n300, if_pos l300, w7]
  simp only [thn_eq]
  rw [g_inT (by omega) (by omega), g_inT (by omega) (by omega), nI_clamp (by omega), nI_clamp (by omega)]
  have hdi : (inc v).2.1.1 = v.2.1.1 + 1 := rfl
  generalize uI s 38 (s.1 38 + (1 : Int32)) = s1 at h1 u1 e1 B1 k44
  generalize uI q 1 (q.1 1 + (1 : Int32)) = q1 at x1 k15
  generalize inc v = v1 at h1 x1 hv1 hn1 hd1 hdi
  rw [e1 (137 + 7 * k) (by omega)]
  rcases h with ⟨kd, x, i, hkd, hx, hi, l2, l3, l4, c0, c1, c2⟩ | ⟨x, y, d, tw, hx, hy, hdd, htw, l2, l3, l4, l5, l6, c0, c1, c2, c3, c4⟩ | ⟨n, n1, n99, l2, l5, c0, c1⟩ | ⟨n, n16, l2, l5, c0, c1⟩ | ⟨l2, c0⟩
  · obtain ⟨s', f1, f2, f3⟩ := r_doAt B1 hw hv1 h1 hkd hx hi
    obtain ⟨y, q', g1, g2, g3⟩ := x_alter (lg := lg) hR hw hv1 x1 hkd hx hi
    have ok := vAt_ok hw (kd := kd) hv1 hx hi
    have st : X12_doOne_j56 rc (nI (137 + 7 * k)) (nI kd) s1 = some s' := by
      unfold X12_doOne_j56
      rw [nI_1, ad2, g_inT (by omega) (by omega), g_inT (by omega) (by omega), nI_clamp (by omega), nI_clamp (by omega), e1 _ (by omega), e1 _ (by omega), c1, c2, f1, ob_s]
    have hw1 : ∀ n : Int32, n ≠ 11 → n ≠ 17 → n ≠ 18 → ¬ nI (wdA kd) = n := by
      intro n a1 a2 a3 q
      rcases hkd with rfl | rfl | rfl
      · exact a1 q.symm
      · exact a2 q.symm
      · exact a3 q.symm
    have ds : pX10_doStep q1 r lg (nI a) = some (y, q') := by
      unfold pX10_doStep
      rw [g_inT (by omega) (by omega), g_inT (by omega) (by omega), g_inT (by omega) (by omega), g_inT (by omega) (by omega), nI_clamp (by omega), l2, l3, l4, if_neg (hw1 13 (by decide) (by decide) (by decide)), if_neg (hw1 23 (by decide) (by decide) (by decide)), if_neg (hw1 24 (by decide) (by decide) (by decide)), g1, ob_s, g_inT (by omega) (by omega), g_inT (by omega) (by omega)]
    obtain ⟨q2, j1, j2, j3⟩ := x_j123 ds g3 g2
    refine ⟨_, s', nI (a + 1), q2, ?_, f2, rU_tr u1 (rU_V f3), ok.1, by rw [ok.2, hdi], ?_, j2, j3.trans k15, Or.inl ⟨rfl, (f3.1 44 (by omega)).trans k44⟩, ?_⟩
    · rw [c0]
      rcases hkd with rfl | rfl | rfl
      · rw [if_pos (by decide)]; exact st
      · rw [if_neg (by decide), if_pos (by decide)]; exact st
      · rw [if_neg (by decide), if_neg (by decide), if_pos (by decide)]; exact st
    · rw [l2, if_neg (hw1 20 (by decide) (by decide) (by decide)), if_neg (hw1 21 (by decide) (by decide) (by decide)), if_neg (hw1 22 (by decide) (by decide) (by decide)), if_neg (hw1 23 (by decide) (by decide) (by decide)), if_neg (hw1 24 (by decide) (by decide) (by decide)), if_neg (hw1 25 (by decide) (by decide) (by decide)), if_neg (hw1 26 (by decide) (by decide) (by decide)), if_neg (hw1 27 (by decide) (by decide) (by decide)), j1]
    · rw [l2]; exact hw1 26 (by decide) (by decide) (by decide)
  · obtain ⟨s', f1, f2, f3⟩ := r_doShip B1 hw hv1 h1 (w := 137 + 7 * k) (by omega) (by omega) (by rw [e1 _ (by omega), c1]) (by rw [e1 _ (by omega), c2]) (by rw [e1 _ (by omega), c3]) (by rw [e1 _ (by omega), c4]) hx hy hdd htw
    obtain ⟨y', q', g1, g2, g3⟩ := x_setOut (lg := lg) hR hw hv1 x1 ha l3 l4 l5 l6 hx hy hdd htw
    have ok := vShip_ok hw (tw := tw) hv1 hn1 hx hy hdd
    have ds : pX10_doStep q1 r lg (nI a) = some (y', q') := by
      unfold pX10_doStep
      rw [g_inT (by omega) (by omega), nI_clamp (by omega), l2, if_pos (by decide), g1, ob_s]
    obtain ⟨q2, j1, j2, j3⟩ := x_j123 ds g3 g2
    refine ⟨_, s', nI (a + 1), q2, ?_, f2, rU_tr u1 (rU_V f3), ok.1, by rw [ok.2.1, hdi], ?_, j2, j3.trans k15, Or.inl ⟨rfl, (f3.1 44 (by omega)).trans k44⟩, ?_⟩
    · rw [c0, if_neg (by decide), if_neg (by decide), if_neg (by decide), if_pos (by decide), f1, ob_s]
    · rw [l2, if_neg (by decide), if_neg (by decide), if_neg (by decide), if_neg (by decide), if_neg (by decide), if_neg (by decide), if_neg (by decide), if_neg (by decide), j1]
    · rw [l2]; decide
  · obtain ⟨s', f1, f2, f3⟩ := r_doWait hw hv1 h1 n1 n99
    obtain ⟨q', g1, g2, g3⟩ := x_landDue (lg := lg) hR hw hv1 x1 n99
    have ok := vDay_ok hv1 (D := v1.2.1.2.1 + n) (by omega)
    have ds : pX10_doStep q1 r lg (nI a) = some (true, q') := by
      unfold pX10_doStep
      rw [g_inT (by omega) (by omega), g_inT (by omega) (by omega), g_inT (by omega) (by omega), nI_clamp (by omega), l2, l5, if_neg (by decide), if_neg (by decide), if_pos (by decide), x1.2.1.2.1, nI_add, thn_eq, g1, ob_s]
    obtain ⟨q2, j1, j2, j3⟩ := x_j123 (v' := vDay (v1.2.1.2.1 + n) v1) ds g2 g3
    refine ⟨_, s', nI (a + 1), q2, ?_, f2, rU_tr u1 (rU_V f3), ok.1, by rw [ok.2.1, hdi], ?_, j2, j3.trans k15, Or.inl ⟨rfl, (f3.1 44 (by omega)).trans k44⟩, ?_⟩
    · rw [c0, if_neg (by decide), if_neg (by decide), if_neg (by decide), if_neg (by decide), if_pos (by decide), nI_1, g_inT (by omega) (by omega), nI_clamp (by omega), e1 _ (by omega), c1, f1, ob_s]
    · rw [l2, if_neg (by decide), if_neg (by decide), if_neg (by decide), if_neg (by decide), if_pos (by decide), j1]
    · rw [l2]; decide
  · obtain ⟨s', f1, f2, f3⟩ := r_doDraw hv1 h1 n16
    obtain ⟨q', g1, g2, g3⟩ := x_draw (r := r) (lg := lg) hv1 x1 n16
    have ok := vDraw_ok n hv1
    have ds : pX10_doStep q1 r lg (nI a) = some (true, q') := by
      unfold pX10_doStep
      rw [g_inT (by omega) (by omega), g_inT (by omega) (by omega), nI_clamp (by omega), l2, l5, if_neg (by decide), if_pos (by decide), g1, ob_s]
    obtain ⟨q2, j1, j2, j3⟩ := x_j123 (v' := vDraw n v1) ds g2 g3
    refine ⟨_, s', nI (a + 1), q2, ?_, f2, rU_tr u1 (rU_V f3), ok.1, by rw [ok.2.1, hdi], ?_, j2, j3.trans k15, Or.inl ⟨rfl, (f3.1 44 (by omega)).trans k44⟩, ?_⟩
    · rw [c0, if_neg (by decide), if_neg (by decide), if_neg (by decide), if_neg (by decide), if_neg (by decide), if_pos (by decide), nI_1, g_inT (by omega) (by omega), nI_clamp (by omega), e1 _ (by omega), c1, f1, ob_s]
    · rw [l2, if_neg (by decide), if_neg (by decide), if_neg (by decide), if_pos (by decide), j1]
    · rw [l2]; decide
  · refine ⟨v1, uI s1 44 (nI 1), m1I, q1, ?_, h1, rU_tr u1 (rU_44 _ _), hv1, hdi, ?_, x1, k15, Or.inr ⟨rfl, rfl⟩, ?_⟩
    · unfold X12_doOne_j166
      rw [c0, if_neg (by decide), if_neg (by decide), if_neg (by decide), if_neg (by decide), if_neg (by decide), if_neg (by decide), if_neg (by decide), if_neg (by decide), if_neg (by decide), thn_eq]; rfl
    · rw [l2, if_neg (by decide), if_neg (by decide), if_neg (by decide), if_neg (by decide), if_neg (by decide), if_neg (by decide), if_neg (by decide), if_pos (by decide)]; rfl
    · rw [l2]; decide
end V
