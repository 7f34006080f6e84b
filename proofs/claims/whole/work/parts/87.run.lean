/-! THE VOYAGE: the simulation -/
section V
variable {s q r lg nw : RS} {B : Nat → Nat} {v : VS} {c : Nat → Int32}
/-- what a round of a segment gives, in words of the reference's way rf to run it -/
def SGM (B : Nat → Nat) (r lg nw : RS) (c : Nat → Int32) (a b : Nat) (rf : RS → Option RS) : Prop :=
  ∀ (v : VS) (s q : RS) (z : Nat), eV c s → vW B v → vrR v s → vrX v q → s.1 44 = nI 0 → z ≤ 101 * v.2.1.1 → ∃ v' s', rf s = some s' ∧ RES B r lg nw a b v s q z (LL r lg nw z (nI a) q) v' s'
/-- WHEN -/
theorem op_when (rc : RS → Int32 → Option RS) (hB : blk c 0 B) (hw : wfB B) (hR : bkR B r) {R a k e m : Nat} (hl : lg.1 1 = nI R) (h60 : R ≤ 60) (he : e < R) (hae : a + 1 ≤ e) (hk : k < 30) (h : opW B lg c a k) (p1 : lg.2.2.1 7 a = nI e) (p2 : lg.2.2.1 2 e = nI 26) (p3 : lg.2.2.1 7 e = nI a) (p4 : c (137 + 7 * k + 6) = nI m) (ih : SGM B r lg nw c (a + 1) e (fun s => pX12_doAll rc s (nI (k + 1)) (nI m))) : SGM B r lg nw c a (e + 1) (fun s => pX12_doOne_f rc s (nI k)) := by
  intro v s q z ev hv hs hq h44 hz
  have hv300 := hv.2.1
  have wd : lg.2.2.1 2 a = nI 20 ∨ lg.2.2.1 2 a = nI 21 ∨ lg.2.2.1 2 a = nI 22 := by
    rcases h.2 with ⟨_, _, _, _, l, _⟩ | ⟨_, _, l, _⟩ | ⟨_, _, l, _⟩
    · exact Or.inl l
    · exact Or.inr (Or.inl l)
    · exact Or.inr (Or.inr l)
  have n26 : ¬ lg.2.2.1 2 a = (26 : Int32) := by rcases wd with w | w | w <;> rw [w] <;> decide
  have n25 : ¬ lg.2.2.1 2 a = (25 : Int32) := by rcases wd with w | w | w <;> rw [w] <;> decide
  by_cases hd : v.2.1.1 = 300
  · obtain ⟨d1, d2⟩ := d300 (r := r) (lg := lg) rc hs hq hd (nI k) (nI a)
    refine ⟨v, _, d1, hs, rU_44 _ _, hv, Nat.le_refl _, Or.inr ⟨rfl, q, ?_, hq⟩⟩
    rw [x_row hl h60 (by omega) (by omega) n26 d2, LL_m (by omega)]
  · have hd' : v.2.1.1 < 300 := by omega
    have h1 := vrR_inc hs
    have x1 := vrX_inc hq
    obtain ⟨hv1, _, _⟩ := vW_inc hv hd'
    have n300 : ¬ s.1 38 = (300 : Int32) := by
      rw [hs.2.1.1]
      exact fun q => by have := (nI_eq (b := 300) (by omega) (by omega)).mp q; omega
    have l300 : q.1 1 < (300 : Int32) := by rw [hq.2.1.1]; exact nI_lt (b := 300) hd' (by omega)
    have u1 : rU s (uI s 38 (s.1 38 + (1 : Int32))) := rU_V (rV_uI _ _ (by omega))
    have e1 : eV c (uI s 38 (s.1 38 + (1 : Int32))) := ev
    obtain ⟨b, so1, so2⟩ := so_ok (lg := lg) (eV_blk e1 hB) hw e1 hR hv1 h1 x1 (a := a) (k := k) (by omega) hk h
    have k44 : (uI s 38 (s.1 38 + (1 : Int32))).1 44 = nI 0 := h44
    have ras : pX10_rowAfterStep q r lg (nI a) = some (if b = true then nI (a + 1) else nI (e + 1), uI q 1 (q.1 1 + (1 : Int32))) := by
      unfold pX10_rowAfterStep X10_rowAfterStep_j97
      rw [if_pos l300, thn_eq, so2, ob_s, g_inT (by omega) (by omega), nI_clamp (by omega), p1, g_inT (by omega) (by omega), nI_1, nI_1]
      have : (if b = true then some (nI (a + 1), uI q 1 (q.1 1 + (1 : Int32))) else some (nI (e + 1), uI q 1 (q.1 1 + (1 : Int32)))) = some (if b = true then nI (a + 1) else nI (e + 1), uI q 1 (q.1 1 + (1 : Int32))) := by cases b <;> rfl
      rcases wd with w | w | w
      · rw [w, if_pos (by decide)]; exact this
      · rw [w, if_neg (by decide), if_pos (by decide)]; exact this
      · rw [w, if_neg (by decide), if_neg (by decide), if_pos (by decide)]; exact this
    have st := x_row (nw := nw) hl h60 (show a < R by omega) (show z < 100000 by omega) n26 ras
    have on : pX12_doOne_f rc s (nI k) = if b = true then pX12_doAll rc (uI s 38 (s.1 38 + (1 : Int32))) (nI (k + 1)) (nI m) else some (uI s 38 (s.1 38 + (1 : Int32))) := by
      unfold pX12_doOne_f X12_doOne_j166
      rw [if_neg n300, w7]
      simp only [thn_eq]
      rw [g_inT (by omega) (by omega), nI_clamp (by omega), ad6, g_inT (by omega) (by omega), nI_clamp (by omega), e1 (137 + 7 * k) (by omega), e1 (137 + 7 * k + 6) (by omega), h.1, p4, so1, ob_s, if_neg (by decide), if_neg (by decide), if_neg (by decide), if_neg (by decide), if_neg (by decide), if_neg (by decide), if_pos (by decide), nI_1]
      cases b with
      | true =>
        rw [if_pos rfl, if_pos rfl]
        cases pX12_doAll rc (uI s 38 (s.1 38 + (1 : Int32))) (nI (k + 1)) (nI m) <;> rfl
      | false => rw [if_neg (by decide), if_neg (by decide), if_pos (by decide), if_neg (by decide)]
    have hdi : (inc v).2.1.1 = v.2.1.1 + 1 := rfl
    have k15 : (uI q 1 (q.1 1 + (1 : Int32))).2.2.1 15 = q.2.2.1 15 := rfl
    generalize uI s 38 (s.1 38 + (1 : Int32)) = s1 at *
    generalize uI q 1 (q.1 1 + (1 : Int32)) = q1 at *
    generalize inc v = v1 at *
    cases b with
    | false =>
      rw [if_neg (by decide)] at on st
      exact ⟨v1, s1, on, h1, u1, hv1, by omega, Or.inl ⟨k44, z + 1, q1, st, by omega, x1, fun j _ => by rw [k15]⟩⟩
    | true =>
      rw [if_pos rfl] at on st
      obtain ⟨v', s', f1, f2, f3, f4, f5, f6⟩ := ih v1 s1 q1 (z + 1) e1 hv1 h1 x1 k44 (by omega)
      have f4' := f4.2.1
      refine ⟨v', s', on.trans f1, f2, rU_tr u1 f3, f4, by omega, ?_⟩
      rcases f6 with ⟨g1, z2, q2, g2, g3, g4, g5⟩ | ⟨g1, q2, g2, g3⟩
      · have re : pX10_rowAfterEnd q2 r lg (nI e) = some (nI (e + 1), q2) := by
          unfold pX10_rowAfterEnd
          rw [g_inT (by omega) (by omega), nI_clamp (by omega), p3, thn_eq, x_isRow hl h60 (show a < R by omega), ob_s, if_pos rfl, g_inT (by omega) (by omega), nI_clamp (by omega), if_neg n25, nI_1]
        refine Or.inl ⟨g1, z2 + 1, q2, ?_, by omega, g4, fun j hj => ?_⟩
        · rw [st, g2, x_endr hl h60 he (by omega) p2 re]
        · rw [g5 j (by omega), k15]
      · exact Or.inr ⟨g1, q2, by rw [st, g2], g3⟩
/-- the rounds of a LOOP -/
theorem op_rounds (rc : RS → Int32 → Option RS) {R a k e m n : Nat} (hl : lg.1 1 = nI R) (h60 : R ≤ 60) (he : e < R) (hae : a + 1 ≤ e) (hk : k < 30) (hn : n ≤ 99) (l2 : lg.2.2.1 2 a = nI 25) (p2 : lg.2.2.1 2 e = nI 26) (p3 : lg.2.2.1 7 e = nI a) (p4 : c (137 + 7 * k + 6) = nI m) (p5 : c (137 + 7 * k + 1) = nI n) (ih : SGM B r lg nw c (a + 1) e (fun s => pX12_doAll rc s (nI (k + 1)) (nI m))) : ∀ (m' j : Nat) (v : VS) (s q : RS) (z N : Nat), j + m' = n → 1 ≤ m' → m' < N → q.2.2.1 15 a = nI m' → eV c s → vW B v → vrR v s → vrX v q → s.1 44 = nI 0 → z + 100 ≤ 101 * v.2.1.1 + j → ∃ v' s', a_loop (fun (y : Int32 × RS) => X12_doOne_b175 rc (nI k) (nI (137 + 7 * k)) y.1 y.2) N (nI j, s) = some s' ∧ vrR v' s' ∧ rU s s' ∧ vW B v' ∧ v.2.1.1 ≤ v'.2.1.1 ∧ ((s'.1 44 = nI 0 ∧ ∃ z' q', LL r lg nw z (nI (a + 1)) q = LL r lg nw z' (nI (e + 1)) q' ∧ z' + 101 * v.2.1.1 ≤ z + m' + 101 * v'.2.1.1 ∧ vrX v' q' ∧ ∀ j, (j < a ∨ e + 1 ≤ j) → q'.2.2.1 15 j = q.2.2.1 15 j) ∨ (s'.1 44 = nI 1 ∧ ∃ q', LL r lg nw z (nI (a + 1)) q = some q' ∧ vrX v' q'))
  | 0, j, v, s, q, z, N, _, h1, _, _, _, _, _, _, _, _ => absurd h1 (by omega)
  | m' + 1, j, v, s, q, z, 0, _, _, hN, _, _, _, _, _, _, _ => absurd hN (by omega)
  | m' + 1, j, v, s, q, z, N + 1, hj, h1, hN, h15, ev, hv, hs, hq, h44, hz => by
    have hv300 := hv.2.1
    obtain ⟨v1, s1, f1, f2, f3, f4, f5, f6⟩ := ih v s q z ev hv hs hq h44 (by omega)
    have f1' : pX12_doAll rc s (nI (k + 1)) (nI m) = some s1 := f1
    have f4' := f4.2.1
    have e1 := rU_e f3 ev
    have hb : (fun (y : Int32 × RS) => X12_doOne_b175 rc (nI k) (nI (137 + 7 * k)) y.1 y.2) (nI j, s) = some (.inl (nI (j + 1), s1)) := by
      dsimp only [X12_doOne_b175]
      rw [nI_1, nI_1, nI_1, ad6, g_inT (by omega) (by omega), nI_clamp (by omega), g_inT (by omega) (by omega), nI_clamp (by omega), ev (137 + 7 * k + 1) (by omega), ev (137 + 7 * k + 6) (by omega), p4, p5, if_neg (nI_ge (by omega) (by omega)), if_pos (show s.1 44 = (0 : Int32) from h44), f1', ob_s, thn_eq]
    rw [lp_s hb]
    rcases f6 with ⟨g1, z2, q2, g2, g3, g4, g5⟩ | ⟨g1, q2, g2, g3⟩
    · have q15 : q2.2.2.1 15 a = nI (m' + 1) := by rw [g5 a (by omega), h15]
      have re : pX10_rowAfterEnd q2 r lg (nI e) = some (if m' ≤ 0 then nI (e + 1) else nI (a + 1), uA q2 15 (upd (q2.2.2.1 15) a (nI m'))) := by
        unfold pX10_rowAfterEnd
        rw [g_inT (by omega) (by omega), nI_clamp (by omega), p3, thn_eq, x_isRow hl h60 (show a < R by omega), ob_s, if_pos rfl, g_inT (by omega) (by omega), nI_clamp (by omega), if_pos (show lg.2.2.1 2 a = (25 : Int32) from l2), q15, show nI (m' + 1) - (1 : Int32) = nI m' from (sbI (b := 1) (by omega)).trans (by rw [Nat.add_sub_cancel])]
        simp (disch := omega) only [g_inT, nI_clamp, thn_eq]
        rw [show (uA q2 15 (upd (q2.2.2.1 15) a (nI m'))).2.2.1 15 a = nI m' by rw [uA_at, upd_at], nI_1, nI_1]
        by_cases cm : m' ≤ 0
        · rw [if_pos (show nI m' ≤ (0 : Int32) from nI_le (b := 0) cm (by omega)), if_pos cm]
        · rw [if_neg (show ¬ nI m' ≤ (0 : Int32) from nI_ge (a := 0) (by omega) (by omega)), if_neg cm]
      have st : LL r lg nw z (nI (a + 1)) q = LL r lg nw (z2 + 1) (if m' ≤ 0 then nI (e + 1) else nI (a + 1)) (uA q2 15 (upd (q2.2.2.1 15) a (nI m'))) := by
        rw [g2, x_endr hl h60 he (by omega) p2 re]
      have g4' : vrX v1 (uA q2 15 (upd (q2.2.2.1 15) a (nI m'))) := g4
      have k15 : ∀ i, (i < a ∨ e + 1 ≤ i) → (uA q2 15 (upd (q2.2.2.1 15) a (nI m'))).2.2.1 15 i = q.2.2.1 15 i := fun i hi => by
        rw [uA_at, upd_ne _ _ (by omega), g5 i (by omega)]
      have k15a : (uA q2 15 (upd (q2.2.2.1 15) a (nI m'))).2.2.1 15 a = nI m' := by rw [uA_at, upd_at]
      generalize uA q2 15 (upd (q2.2.2.1 15) a (nI m')) = q3 at *
      by_cases cm : m' ≤ 0
      · rw [if_pos cm] at st
        refine ⟨v1, s1, ?_, f2, f3, f4, f5, Or.inl ⟨g1, z2 + 1, q3, st, by omega, g4', k15⟩⟩
        obtain ⟨M, rfl⟩ := Nat.exists_eq_succ_of_ne_zero (show N ≠ 0 by omega)
        refine lp_e ?_
        dsimp only [X12_doOne_b175]
        rw [nI_1, g_inT (by omega) (by omega), nI_clamp (by omega), e1 (137 + 7 * k + 1) (by omega), p5, if_pos (nI_le (by omega) (by omega))]
      · rw [if_neg cm] at st
        obtain ⟨v', s', t1, t2, t3, t4, t5, t6⟩ := op_rounds rc hl h60 he hae hk hn l2 p2 p3 p4 p5 ih m' (j + 1) v1 s1 q3 (z2 + 1) N (by omega) (by omega) (by omega) k15a e1 f4 f2 g4' g1 (by omega)
        refine ⟨v', s', t1, t2, rU_tr f3 t3, t4, by omega, ?_⟩
        rcases t6 with ⟨y1, z', q', y2, y3, y4, y5⟩ | ⟨y1, q', y2, y3⟩
        · exact Or.inl ⟨y1, z', q', by rw [st, y2], by omega, y4, fun i hi => by rw [y5 i hi, k15 i hi]⟩
        · exact Or.inr ⟨y1, q', by rw [st, y2], y3⟩
    · refine ⟨v1, s1, ?_, f2, f3, f4, f5, Or.inr ⟨g1, q2, g2, g3⟩⟩
      obtain ⟨M, rfl⟩ := Nat.exists_eq_succ_of_ne_zero (show N ≠ 0 by omega)
      refine lp_e ?_
      dsimp only [X12_doOne_b175]
      rw [nI_1, g_inT (by omega) (by omega), nI_clamp (by omega), g1, if_neg (show ¬ nI 1 = (0 : Int32) by decide)]
      by_cases cc : s1.2.2.1 4 (137 + 7 * k + 1) ≤ nI (j + 1)
      · rw [if_pos cc]
      · rw [if_neg cc]
/-- LOOP -/
theorem op_loop (rc : RS → Int32 → Option RS) {R a k e m : Nat} (hl : lg.1 1 = nI R) (h60 : R ≤ 60) (he : e < R) (hae : a + 1 ≤ e) (hk : k < 30) (h : opL lg c a k) (p2 : lg.2.2.1 2 e = nI 26) (p3 : lg.2.2.1 7 e = nI a) (p4 : c (137 + 7 * k + 6) = nI m) (ih : SGM B r lg nw c (a + 1) e (fun s => pX12_doAll rc s (nI (k + 1)) (nI m))) : SGM B r lg nw c a (e + 1) (fun s => pX12_doOne_f rc s (nI k)) := by
  intro v s q z ev hv hs hq h44 hz
  have hv300 := hv.2.1
  obtain ⟨n, n1, n99, l2, l5, c0, c1⟩ := h
  have n26 : ¬ lg.2.2.1 2 a = (26 : Int32) := by rw [l2]; decide
  by_cases hd : v.2.1.1 = 300
  · obtain ⟨d1, d2⟩ := d300 (r := r) (lg := lg) rc hs hq hd (nI k) (nI a)
    refine ⟨v, _, d1, hs, rU_44 _ _, hv, Nat.le_refl _, Or.inr ⟨rfl, q, ?_, hq⟩⟩
    rw [x_row hl h60 (by omega) (by omega) n26 d2, LL_m (by omega)]
  · have hd' : v.2.1.1 < 300 := by omega
    have h1 := vrR_inc hs
    have x1 := vrX_inc hq
    obtain ⟨hv1, _, _⟩ := vW_inc hv hd'
    have n300 : ¬ s.1 38 = (300 : Int32) := by
      rw [hs.2.1.1]
      exact fun q => by have := (nI_eq (b := 300) (by omega) (by omega)).mp q; omega
    have l300 : q.1 1 < (300 : Int32) := by rw [hq.2.1.1]; exact nI_lt (b := 300) hd' (by omega)
    have u1 : rU s (uI s 38 (s.1 38 + (1 : Int32))) := rU_V (rV_uI _ _ (by omega))
    have e1 : eV c (uI s 38 (s.1 38 + (1 : Int32))) := ev
    have k44 : (uI s 38 (s.1 38 + (1 : Int32))).1 44 = nI 0 := h44
    have ras : pX10_rowAfterStep q r lg (nI a) = some (nI (a + 1), uA (uI q 1 (q.1 1 + (1 : Int32))) 15 (upd (q.2.2.1 15) a (nI n))) := by
      unfold pX10_rowAfterStep
      rw [if_pos l300, thn_eq, g_inT (by omega) (by omega), g_inT (by omega) (by omega), g_inT (by omega) (by omega), nI_clamp (by omega), l2, l5, if_neg (by decide), if_neg (by decide), if_neg (by decide), if_neg (by decide), if_neg (by decide), if_pos (by decide), thn_eq, nI_1]; rfl
    have st := x_row (nw := nw) hl h60 (show a < R by omega) (show z < 100000 by omega) n26 ras
    have on : pX12_doOne_f rc s (nI k) = a_loop (fun (y : Int32 × RS) => X12_doOne_b175 rc (nI k) (nI (137 + 7 * k)) y.1 y.2) FU (nI 0, uI s 38 (s.1 38 + (1 : Int32))) := by
      unfold pX12_doOne_f X12_doOne_j166
      rw [if_neg n300, w7]
      simp only [thn_eq]
      rw [g_inT (by omega) (by omega), nI_clamp (by omega), e1 (137 + 7 * k) (by omega), c0, if_neg (by decide), if_neg (by decide), if_neg (by decide), if_neg (by decide), if_neg (by decide), if_neg (by decide), if_neg (by decide), if_pos (by decide)]
      show (a_loop (fun (y : Int32 × RS) => X12_doOne_b175 rc (nI k) (nI (137 + 7 * k)) y.1 y.2) FU (nI 0, uI s 38 (s.1 38 + (1 : Int32)))).bind _ = _
      cases a_loop (fun (y : Int32 × RS) => X12_doOne_b175 rc (nI k) (nI (137 + 7 * k)) y.1 y.2) FU (nI 0, uI s 38 (s.1 38 + (1 : Int32))) <;> rfl
    have hdi : (inc v).2.1.1 = v.2.1.1 + 1 := rfl
    have x1' : vrX (inc v) (uA (uI q 1 (q.1 1 + (1 : Int32))) 15 (upd (q.2.2.1 15) a (nI n))) := x1
    have k15 : (uA (uI q 1 (q.1 1 + (1 : Int32))) 15 (upd (q.2.2.1 15) a (nI n))).2.2.1 15 = upd (q.2.2.1 15) a (nI n) := uA_at _ _ _
    generalize uI s 38 (s.1 38 + (1 : Int32)) = s1 at *
    generalize uA (uI q 1 (q.1 1 + (1 : Int32))) 15 (upd (q.2.2.1 15) a (nI n)) = q1 at *
    generalize inc v = v1 at *
    obtain ⟨v', s', f1, f2, f3, f4, f5, f6⟩ := op_rounds rc hl h60 he hae hk n99 l2 p2 p3 p4 c1 ih n 0 v1 s1 q1 (z + 1) FU (by omega) n1 (by show _ < 100000; omega) (by rw [k15, upd_at]) e1 hv1 h1 x1' k44 (by omega)
    refine ⟨v', s', on.trans f1, f2, rU_tr u1 f3, f4, by omega, ?_⟩
    rcases f6 with ⟨g1, z2, q2, g2, g3, g4, g5⟩ | ⟨g1, q2, g2, g3⟩
    · exact Or.inl ⟨g1, z2, q2, by rw [st, g2], by omega, g4, fun j hj => by rw [g5 j (by omega), k15, upd_ne _ _ (by omega)]⟩
    · exact Or.inr ⟨g1, q2, by rw [st, g2], g3⟩
end V
