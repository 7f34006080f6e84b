/-! THE VOYAGE: the LOG's segments, and the run through one -/
def opW (B : Nat → Nat) (lg : RS) (c : Nat → Int32) (a k : Nat) : Prop := c (137 + 7 * k) = nI 6 ∧
  ((∃ x y, x < B 1 ∧ y < B 0 ∧ lg.2.2.1 2 a = nI 20 ∧ lg.2.2.1 3 a = nI x ∧ lg.2.2.1 4 a = nI y ∧ c (137 + 7 * k + 5) = nI 0 ∧ c (137 + 7 * k + 1) = nI x ∧ c (137 + 7 * k + 2) = nI y) ∨
   (∃ x, x < B 1 ∧ lg.2.2.1 2 a = nI 21 ∧ lg.2.2.1 3 a = nI x ∧ c (137 + 7 * k + 5) = nI 1 ∧ c (137 + 7 * k + 1) = nI x) ∨
   (∃ n, n ≤ 999 ∧ lg.2.2.1 2 a = nI 22 ∧ lg.2.2.1 5 a = nI n ∧ c (137 + 7 * k + 5) = nI 2 ∧ c (137 + 7 * k + 1) = nI n))
def opL (lg : RS) (c : Nat → Int32) (a k : Nat) : Prop := ∃ n, 1 ≤ n ∧ n ≤ 99 ∧ lg.2.2.1 2 a = nI 25 ∧ lg.2.2.1 5 a = nI n ∧ c (137 + 7 * k) = nI 7 ∧ c (137 + 7 * k + 1) = nI n
def sg (B : Nat → Nat) (lg : RS) (c : Nat → Int32) : Nat → Nat → Nat → Nat → Nat → Nat → Prop
  | 0, _, a, b, k, t => a = b ∧ k = t
  | n + 1, d, a, b, k, t => (a = b ∧ k = t) ∨ (smR B lg c a k ∧ c (137 + 7 * k + 6) = nI (k + 1) ∧ sg B lg c n d (a + 1) b (k + 1) t) ∨ (∃ d' e m, d = d' + 1 ∧ (opW B lg c a k ∨ opL lg c a k) ∧ lg.2.2.1 7 a = nI e ∧ lg.2.2.1 2 e = nI 26 ∧ lg.2.2.1 7 e = nI a ∧ c (137 + 7 * k + 6) = nI m ∧ sg B lg c n d' (a + 1) e (k + 1) m ∧ sg B lg c n d (e + 1) b m t)
theorem sg_le {B : Nat → Nat} {lg : RS} {c : Nat → Int32} : ∀ (n d a b k t : Nat), sg B lg c n d a b k t → a ≤ b ∧ k ≤ t
  | 0, d, a, b, k, t, h => ⟨Nat.le_of_eq h.1, Nat.le_of_eq h.2⟩
  | n + 1, d, a, b, k, t, h => by
    rcases h with h | ⟨_, _, h⟩ | ⟨d', e, m, _, _, _, _, _, _, h1, h2⟩
    · exact ⟨Nat.le_of_eq h.1, Nat.le_of_eq h.2⟩
    · have := sg_le n d _ _ _ _ h; omega
    · have := sg_le n d' _ _ _ _ h1
      have := sg_le n d _ _ _ _ h2
      omega
def LL (r lg nw : RS) (z : Nat) (a : Int32) (q : RS) : Option RS := a_loop (fun (y : Int32 × Int32 × RS) => X10_run_b90 y.1 y.2.1 y.2.2 r lg nw) (100000 - z) (a, nI z, q)
def RES (B : Nat → Nat) (r lg nw : RS) (a b : Nat) (v : VS) (s q : RS) (z : Nat) (st : Option RS) (v' : VS) (s' : RS) : Prop :=
  vrR v' s' ∧ rU s s' ∧ vW B v' ∧ v.2.1.1 ≤ v'.2.1.1 ∧ ((s'.1 44 = nI 0 ∧ ∃ z' q', st = LL r lg nw z' (nI b) q' ∧ z' + 101 * v.2.1.1 ≤ z + 101 * v'.2.1.1 ∧ vrX v' q' ∧ ∀ j, (j < a ∨ b ≤ j) → q'.2.2.1 15 j = q.2.2.1 15 j) ∨ (s'.1 44 = nI 1 ∧ ∃ q', st = some q' ∧ vrX v' q'))
section V
variable {s q r lg nw : RS} {B : Nat → Nat} {v : VS} {c : Nat → Int32}
theorem LL_s {z : Nat} {a a' : Int32} {q' : RS} (hz : z < 100000) (h : X10_run_b90 a (nI z) q r lg nw = some (.inl (a', nI (z + 1), q'))) : LL r lg nw z a q = LL r lg nw (z + 1) a' q' := by
  unfold LL
  rw [show 100000 - z = (100000 - (z + 1)) + 1 by omega]
  exact lp_s (body := fun (y : Int32 × Int32 × RS) => X10_run_b90 y.1 y.2.1 y.2.2 r lg nw) h
theorem LL_e {z : Nat} {a : Int32} (hz : z < 100000) (h : X10_run_b90 a (nI z) q r lg nw = some (.inr q)) : LL r lg nw z a q = some q := by
  unfold LL
  rw [show 100000 - z = (100000 - (z + 1)) + 1 by omega]
  exact lp_e (body := fun (y : Int32 × Int32 × RS) => X10_run_b90 y.1 y.2.1 y.2.2 r lg nw) h
theorem LL_m {z : Nat} (hz : z < 100000) : LL r lg nw z m1I q = some q := by
  refine LL_e hz ?_
  unfold X10_run_b90 pX10_isRow
  rw [show (1000000 : Int32) = nI 1000000 from rfl, if_neg (nI_ge (by omega) (by omega)), if_pos (by decide), ob_s]; rfl
theorem x_isRow {R a : Nat} (hR : lg.1 1 = nI R) (h60 : R ≤ 60) (ha : a < R) : pX10_isRow q r lg (nI a) = some true := by
  unfold pX10_isRow
  rw [if_neg (nI_pos (by omega)), hR, if_neg (nI_ge ha (by omega)), show (60 : Int32) = nI 60 from rfl, if_neg (nI_ge (by omega) (by omega))]
theorem x_row {R a z : Nat} (hR : lg.1 1 = nI R) (h60 : R ≤ 60) (ha : a < R) (hz : z < 100000) (h26 : ¬ lg.2.2.1 2 a = (26 : Int32)) {y : Int32} {q' : RS} (h : pX10_rowAfterStep q r lg (nI a) = some (y, q')) : LL r lg nw z (nI a) q = LL r lg nw (z + 1) y q' := by
  refine LL_s hz ?_
  unfold X10_run_b90 X10_run_j136
  rw [show (1000000 : Int32) = nI 1000000 from rfl, if_neg (nI_ge (by omega) (by omega)), x_isRow hR h60 ha, ob_s, if_pos rfl, g_inT (by omega) (by omega), nI_clamp (by omega), if_neg h26, h, ob_s, thn_eq, nI_1]
theorem x_endr {R a z : Nat} (hR : lg.1 1 = nI R) (h60 : R ≤ 60) (ha : a < R) (hz : z < 100000) (h26 : lg.2.2.1 2 a = nI 26) {y : Int32} {q' : RS} (h : pX10_rowAfterEnd q r lg (nI a) = some (y, q')) : LL r lg nw z (nI a) q = LL r lg nw (z + 1) y q' := by
  refine LL_s hz ?_
  unfold X10_run_b90 X10_run_j136
  rw [show (1000000 : Int32) = nI 1000000 from rfl, if_neg (nI_ge (by omega) (by omega)), x_isRow hR h60 ha, ob_s, if_pos rfl, g_inT (by omega) (by omega), nI_clamp (by omega), if_pos (show lg.2.2.1 2 a = (26 : Int32) from h26), h, ob_s, thn_eq, nI_1]
/-- 300 STEPS are done -/
theorem d300 (rc : RS → Int32 → Option RS) (hs : vrR v s) (hq : vrX v q) (hd : v.2.1.1 = 300) (k a : Int32) : pX12_doOne_f rc s k = some (uI s 44 (nI 1)) ∧ pX10_rowAfterStep q r lg a = some (m1I, q) := by
  constructor
  · unfold pX12_doOne_f
    rw [hs.2.1.1, hd, if_pos (by decide), thn_eq]; rfl
  · unfold pX10_rowAfterStep
    rw [hq.2.1.1, hd, if_neg (by decide)]; rfl
theorem so_ok (hB : blk (s.2.2.1 4) 0 B) (hw : wfB B) (e : eV c s) (hR : bkR B r) (hv : vW B v) (hs : vrR v s) (hq : vrX v q) {a k : Nat} (ha : a < 60) (hk : k < 30) (h : opW B lg c a k) : ∃ b, pX12_isSo s (nI (137 + 7 * k)) = some b ∧ pX10_isSo q r lg (nI a) = some b := by
  have h16 := hw.1
  have h4 := hw.2.1
  have p16 : 2 ^ B 0 ≤ 2 ^ 16 := Nat.pow_le_pow_right (by decide) h16
  unfold pX12_isSo pX10_isSo
  rw [nI_1, ad2, ad5]
  simp (disch := omega) only [g_inT, nI_clamp, thn_eq]
  rw [e (137 + 7 * k + 5) (by omega), e (137 + 7 * k + 1) (by omega), e (137 + 7 * k + 2) (by omega)]
  rcases h.2 with ⟨x, y, hx, hy, l2, l3, l4, c5, c1, c2⟩ | ⟨x, hx, l2, l3, c5, c1⟩ | ⟨n, hn, l2, l5, c5, c1⟩
  · have hH := (hv.1 x (by omega)).1
    refine ⟨(v.1 x).testBit y, ?_, ?_⟩
    · rw [c5, c1, c2, if_neg (by decide), r_isIsland hB hw (by omega), decide_eq_true hx, ob_s, if_pos rfl, if_neg (by decide), r_isChangeN hB hw (by omega), decide_eq_true hy, ob_s, if_pos rfl, g114 (show x < 4 by omega), c114 (by omega), hs.1 x (by omega), hasT (by omega) (by omega), ob_s]
      cases (v.1 x).testBit y <;> rfl
    · rw [l2, l3, l4, if_pos (by decide), x_isIslandN hR hw (by omega), decide_eq_true hx, ob_s, if_pos rfl, g_inT (by omega) (by omega), nI_clamp (by omega), hq.1 x (by omega), isInT (by omega) (by omega), ob_s]
      cases (v.1 x).testBit y <;> rfl
  · have hH := (hv.1 x (by omega)).1
    refine ⟨qt B (v.1 x), ?_, ?_⟩
    · rw [c5, c1, if_neg (by decide), r_isIsland hB hw (by omega), decide_eq_true hx, ob_s, if_pos rfl, if_pos (by decide), g114 (show x < 4 by omega), c114 (by omega), hs.1 x (by omega), r_isQuiet hB hw (by omega), ob_s]
    · rw [l2, l3, if_neg (by decide), if_pos (by decide), x_isIslandN hR hw (by omega), decide_eq_true hx, ob_s, if_pos rfl, g_inT (by omega) (by omega), nI_clamp (by omega), hq.1 x (by omega)]
      rcases x_mostQ hR hw (t := v.1 x) (by omega) with ⟨m1, m2⟩ | ⟨y, y1, y2, y3⟩
      · rw [m1, m2, ob_s, if_pos (show m1I = (-1 : Int32) from rfl)]
      · have : qt B (v.1 x) = false := by
          cases cq : qt B (v.1 x) with
          | false => rfl
          | true =>
            have := alN_iff.mp cq y y1
            exact absurd (beq_iff_eq.mp this) y2
        rw [y3, this, ob_s, show (-1 : Int32) = m1I from rfl, if_neg (by rw [m1_ne (by omega)]; exact id)]
  · have d1 := hv.2.1
    have d2 := hv.2.2.1
    refine ⟨decide (¬ v.2.1.2.1 < n), ?_, ?_⟩
    · rw [c5, c1, if_pos (by decide), hs.2.1.2.1, ifLt (by omega) (by omega)]
      by_cases cc : v.2.1.2.1 < n
      · rw [if_pos cc, decide_eq_false (fun h => h cc)]
      · rw [if_neg cc, decide_eq_true cc]
    · rw [l2, l5, if_neg (by decide), if_neg (by decide), hq.2.1.2.1, ifLt (by omega) (by omega)]
      by_cases cc : v.2.1.2.1 < n
      · rw [if_pos cc, decide_eq_false (fun h => h cc)]
      · rw [if_neg cc, decide_eq_true cc]
end V
