/-! LEAST OUT, MOST QUIET: class and reference answer alike -/
def gO (B : Nat → Nat) (w k : Nat) : Bool := bdf k w == 0 && lk B (bdf w k) == 0 && qt B (bdf w k)
def blN (B : Nat → Nat) (w : Nat) : Nat → Option Nat
  | 0 => none
  | k + 1 => if gO B w k && (match blN B w k with | none => true | some b => decide (bts k < bts b)) then some k else blN B w k
theorem blN_ok (B : Nat → Nat) (w : Nat) : ∀ n, (blN B w n = none ∧ ∀ j, j < n → gO B w j = false) ∨ ∃ b, blN B w n = some b ∧ b < n ∧ gO B w b = true ∧ ∀ j, j < n → gO B w j = true → le2 b j
  | 0 => Or.inl ⟨rfl, fun j h => absurd h (Nat.not_lt_zero _)⟩
  | n + 1 => by
    have hu : blN B w (n + 1) = if gO B w n && (match blN B w n with | none => true | some b => decide (bts n < bts b)) then some n else blN B w n := rfl
    rw [hu]
    cases g : gO B w n with
    | false =>
      rw [Bool.false_and, if_neg (by decide)]
      rcases blN_ok B w n with ⟨h1, h2⟩ | ⟨b, h1, h2, h3, h4⟩
      · refine Or.inl ⟨h1, fun j hj => ?_⟩
        by_cases e : j = n
        · rw [e]; exact g
        · exact h2 j (by omega)
      · refine Or.inr ⟨b, h1, by omega, h3, fun j hj hg => ?_⟩
        by_cases e : j = n
        · rw [e, g] at hg; cases hg
        · exact h4 j (by omega) hg
    | true =>
      rw [Bool.true_and]
      rcases blN_ok B w n with ⟨h1, h2⟩ | ⟨b, h1, h2, h3, h4⟩
      · rw [h1]
        refine Or.inr ⟨n, rfl, by omega, g, fun j hj hg => ?_⟩
        by_cases e : j = n
        · rw [e]; exact le2_rf n
        · rw [h2 j (by omega)] at hg; cases hg
      · rw [h1]
        by_cases e : bts n < bts b
        · rw [show (match some b with | none => true | some b => decide (bts n < bts b)) = true from decide_eq_true e, if_pos rfl]
          refine Or.inr ⟨n, rfl, by omega, g, fun j hj hg => ?_⟩
          by_cases e2 : j = n
          · rw [e2]; exact le2_rf n
          · exact le2_tr (Or.inl e) (h4 j (by omega) hg)
        · rw [show (match some b with | none => true | some b => decide (bts n < bts b)) = false from decide_eq_false e, if_neg (by decide)]
          refine Or.inr ⟨b, rfl, by omega, h3, fun j hj hg => ?_⟩
          by_cases e2 : j = n
          · subst e2
            unfold le2; omega
          · exact h4 j (by omega) hg
theorem gO_iff {B : Nat → Nat} {w k : Nat} : gO B w k = true ↔ gdO B w k := by
  unfold gO gdO
  simp only [Bool.and_eq_true, beq_iff_eq]
  have : bdf k w = 0 ↔ sbN k w := by
    constructor
    · intro h i hi
      have h1 := bdf_tb k w i
      rw [h, Nat.zero_testBit, hi] at h1
      cases e : w.testBit i with
      | true => rfl
      | false => rw [e] at h1; cases h1
    · intro h
      apply Nat.eq_of_testBit_eq
      intro i
      rw [bdf_tb, Nat.zero_testBit]
      cases e : k.testBit i with
      | false => rfl
      | true => rw [h i e]; rfl
  rw [this, and_assoc]
theorem sb_le {a b : Nat} (h : sbN a b) (hb : b < 65536) : a ≤ b := by
  have e : a ||| (bdf b a) = b := by
    apply Nat.eq_of_testBit_eq
    intro i
    rw [Nat.testBit_or, bdf_tb]
    cases c : a.testBit i with
    | true => rw [h i c]; rfl
    | false => simp
  rw [← e]; exact Nat.left_le_or
theorem lk_0 (B : Nat → Nat) : lk B 0 = 0 := lk_iff.mpr (fun k _ h => by rw [Nat.zero_testBit] at h; cases h)
theorem qt_0 (B : Nat → Nat) : qt B 0 = true := qt_iff.mpr (fun a b _ _ => by unfold qr; rw [Nat.zero_testBit]; rfl)
theorem bdf_self (w : Nat) : bdf w w = 0 := by
  apply Nat.eq_of_testBit_eq
  intro i
  rw [bdf_tb, Nat.zero_testBit]
  cases w.testBit i <;> rfl
theorem gdO_all (B : Nat → Nat) (w : Nat) : gdO B w w := ⟨sb_rf w, by rw [bdf_self]; exact lk_0 B, by rw [bdf_self]; exact qt_0 B⟩
def qE (s s0 : RS) (R : Option (Int32 × RS)) (XE : Option (Int32 × RS)) (XT : Option (Int32 × RS × RS)) : Prop := qq s s0 R XE ∨ qL s s0 R XT
section Q
variable {s r : RS} {B : Nat → Nat} {s0 s1 : RS}
theorem r_isQuiet (hB : blk (s.2.2.1 4) 0 B) (hw : wfB B) {t : Nat} (ht : t < 65536) : pX12_isQuiet s (nI t) = some (qt B t) := by
  have h16 := hw.1
  have : qsm B t ≤ B 0 * 16 := smN_le (fun k _ => bts_le _)
  unfold pX12_isQuiet
  rw [r_quarrelsIn hB hw ht, ob_s, show (0 : Int32) = nI 0 from rfl, ifE (by omega) (by omega)]
  cases e : qt B t with
  | true => rw [if_pos ((qsm_qt hw t).mpr e)]
  | false => rw [if_neg (fun q => by rw [(qsm_qt hw t).mp q] at e; cases e)]
theorem r_leastOut (hB : blk (s.2.2.1 4) 0 B) (hw : wfB B) {w : Nat} (hw6 : w < 65536) : a_loop (fun (q : Int32 × Int32) => X12_leastOut_b27 (nI w) q.1 q.2 s) FU ((-1 : Int32), (0 : Int32)) = some (oI (blN B w (w + 1))) := by
  have h16 := hw.1
  refine lp_f (fun k => (oI (blN B w k), nI k)) (w + 1) (by omega) (fun k hk => ?_) ?_
  · dsimp only [X12_leastOut_b27, X12_leastOut_j84, X12_leastOut_j58]
    have k6 : k < 65536 := by omega
    have d6 : bdf k w < 65536 := bdf_lt (n := 16) k6
    have e6 : bdf w k < 65536 := bdf_lt (n := 16) hw6
    have l6 := lk_lt hw (bdf w k)
    have b1 := bts_le k
    have hu : blN B w (k + 1) = if gO B w k && (match blN B w k with | none => true | some b => decide (bts k < bts b)) then some k else blN B w k := rfl
    have hg : gO B w k = (bdf k w == 0 && lk B (bdf w k) == 0 && qt B (bdf w k)) := rfl
    rw [if_neg (nI_nlt (by omega) (by omega)), show (-1 : Int32) = m1I from rfl, dfI, dfI, r_lackOf hB hw e6, ob_s, r_isQuiet hB hw e6, ob_s, show (0 : Int32) = nI 0 from rfl, ifE (by omega) (by omega), ifE (by omega) (by omega), bitsT k6, ob_s]
    simp only [thn_eq, nI_1]
    rw [hu, hg]
    by_cases c1 : bdf k w = 0
    · have c1' : (bdf k w == 0) = true := by simpa using c1
      rw [if_pos c1, c1', Bool.true_and]
      by_cases c2 : lk B (bdf w k) = 0
      · have c2' : (lk B (bdf w k) == 0) = true := by simpa using c2
        rw [if_pos c2, c2', Bool.true_and]
        rcases blN_ok B w k with ⟨h1, h2⟩ | ⟨b, h1, h2, h3, h4⟩
        · rw [h1, if_pos (show oI none < nI 0 by decide)]
          cases qt B (bdf w k) <;> rfl
        · have b2 := bts_le b
          rw [h1, if_neg (show ¬ oI (some b) < nI 0 from nI_nlt (Nat.zero_le _) (by omega)), show oI (some b) = nI b from rfl, bitsT (by omega), ob_s, ifLt (by omega) (by omega)]
          by_cases c3 : bts k < bts b
          · rw [if_pos c3, show (match some b with | none => true | some b => decide (bts k < bts b)) = true from decide_eq_true c3]
            cases qt B (bdf w k) <;> rfl
          · rw [if_neg c3, show (match some b with | none => true | some b => decide (bts k < bts b)) = false from decide_eq_false c3]
            cases qt B (bdf w k) <;> rfl
      · have c2' : (lk B (bdf w k) == 0) = false := by simpa using c2
        rw [if_neg c2, c2', Bool.false_and, Bool.false_and, if_neg (show ¬ (false = true) by decide)]
        rcases blN_ok B w k with ⟨h1, h2⟩ | ⟨b, h1, h2, h3, h4⟩
        · rw [h1, if_pos (show oI none < nI 0 by decide)]
        · have b2 := bts_le b
          rw [h1, if_neg (show ¬ oI (some b) < nI 0 from nI_nlt (Nat.zero_le _) (by omega)), show oI (some b) = nI b from rfl, bitsT (by omega), ob_s]
          split <;> rfl
    · have c1' : (bdf k w == 0) = false := by simpa using c1
      rw [if_neg c1, c1', Bool.false_and, Bool.false_and, Bool.false_and, if_neg (show ¬ (false = true) by decide)]
  · dsimp only [X12_leastOut_b27]
    rw [if_pos (nI_lt (by omega) (by omega))]
theorem x_fewest (hR : bkR B r) (hw : wfB B) {w : Nat} (hw2 : w < 2 ^ B 0) (hc : lk B w = 0) : ∃ b q', pX6_fewestOut (zW (nI w)) r = some (nI b, q') ∧ gdO B w b ∧ ∀ j, gdO B w j → le2 b j := by
  have h16 := hw.1
  obtain ⟨q', b, h1, h2, h3, h4, h5, h6⟩ := x_seek hR hw hw2 20 0 w (zW (nI w)) w rfl rfl (sb_rf w) hc (gdO_all B w) (Nat.zero_le _) (by omega)
  refine ⟨b, q', ?_, h4, fun j hj => ?_⟩
  · unfold pX6_fewestOut
    show (pX6_seek 20 (zW (nI w)) r (nI w) (nI 0)).bind _ = _
    rw [h1, ob_s, h3]
  · have := h6 (bdf w j) (sb_bdf _ _) hj.2.1 hj.2.2
    rwa [bdf_bdf hj.1] at this
theorem q_leastOut (hB : blk (s.2.2.1 4) 0 B) (hw : wfB B) (hR : bkR B r) (a0 : Int32) : qE s s0 (pX12_leastOut s a0) (pX11_leastOutE s0 s1 r a0) (pX11_leastOutT s0 s1 r a0) := by
  have h16 := hw.1
  unfold pX12_leastOut pX11_leastOutE pX11_leastOutT pX11_leastOuth
  simp only [thn_eq]
  rcases why_set (s := uI s 1 0) (s0 := s0) (s1 := s1) hB hw hR a0 with ⟨t, ht, ht', rfl, hl, e1, e2⟩ | ⟨w, h9, e1, e2⟩
  · right
    obtain ⟨b, q', f1, f2, f3⟩ := x_fewest hR hw ht hl
    have hb : b ≤ t := sb_le f2.1 ht'
    rw [e1, e2, ob_s, ob_s, if_pos (show (uI (uI s 1 (0 : Int32)) 0 (0 : Int32)).1 0 ≤ 0 from (by decide : (0 : Int32) ≤ 0)), if_pos rfl, r_leastOut (s := uI (uI s 1 0) 0 0) hB hw ht', ob_s, ob_s]
    have e3 : blN B t (t + 1) = some b := by
      rcases blN_ok B t (t + 1) with ⟨h1, h2⟩ | ⟨c, h1, h2, h3, h4⟩
      · have := h2 t (by omega)
        rw [gO_iff.mpr (gdO_all B t)] at this; cases this
      · have k1 := f3 c (gO_iff.mp h3)
        have k2 := h4 b (by omega) (gO_iff.mpr f2)
        rw [h1, le2_as k1 k2]
    rw [e3]
    unfold pX11_leastOutm pX11_leastOutt
    rw [ob_s, f1, ob_s]
    exact ⟨_, _, _, rfl, rq_2 _ _ _, rfl⟩
  · left
    rw [e1, e2, ob_s, ob_s, if_neg (show ¬ (uI (uI s 1 (0 : Int32)) 0 w).1 0 ≤ 0 from (w_le h9).1), if_neg (w_le h9).2]
    exact ⟨_, _, rfl, rq_2 _ _ _, rfl⟩
theorem bts_bdf {w Q : Nat} (h : sbN Q w) : bts (bdf w Q) + bts Q = bts w := by
  unfold bts
  rw [← smN_add]
  apply smN_cg
  intro k _
  rw [bdf_tb]
  cases e : Q.testBit k with
  | true => rw [h k e]; rfl
  | false => cases w.testBit k <;> rfl
theorem ones_tb (n i : Nat) : (2 ^ n - 1).testBit i = decide (i < n) := Nat.testBit_two_pow_sub_one n i
theorem bts_ones {n : Nat} (hn : n ≤ 16) : bts (2 ^ n - 1) = n := by
  have hlt : 2 ^ n - 1 < 2 ^ n := by have := Nat.two_pow_pos n; omega
  rw [bts_n (n := n) hlt hn]
  have : ∀ m, m ≤ n → smN (fun k => ((2 ^ n - 1).testBit k).toNat) m = m := by
    intro m
    induction m with
    | zero => intro _; rfl
    | succ m ih =>
      intro hm
      rw [smN_s, ih (by omega), ones_tb, decide_eq_true (by omega)]; rfl
  exact this n (Nat.le_refl _)
theorem r_mostQuiet (hB : blk (s.2.2.1 4) 0 B) (hw : wfB B) : a_loop (fun (q : Int32 × Int32) => X12_mostQuiet_b14 q.1 q.2 s) FU ((0 : Int32), (0 : Int32)) = some (nI (mxN (fun t => if lk B t == 0 && qt B t then bts t else 0) (2 ^ B 0))) := by
  have h16 := hw.1
  have p16 : 2 ^ B 0 ≤ 2 ^ 16 := Nat.pow_le_pow_right (by decide) h16
  have hb0 : s.2.2.1 4 (0 : Int32).toNatClampNeg = nI (B 0) := hB.1 0 (by omega)
  have mx : ∀ k, mxN (fun t => if lk B t == 0 && qt B t then bts t else 0) k ≤ 16 := fun k => mxN_le (fun i _ => by
    have := bts_le i
    split <;> omega)
  refine lp_acc (fun k => mxN (fun t => if lk B t == 0 && qt B t then bts t else 0) k) (2 ^ B 0) (by omega) (fun k hk => ?_) ?_
  · dsimp only [X12_mostQuiet_b14, X12_mostQuiet_j55]
    have k6 : k < 65536 := by omega
    have b1 := bts_le k
    have l6 := lk_lt hw k
    have m1 := mx k
    rw [hb0, show (0 : Int32) = nI 0 from rfl, g_inT (by omega) (by omega), show (1 : Int32) = nI 1 from rfl, show (31 : Int32) = nI 31 from rfl, s1I (by omega), if_neg (nI_ge hk (by omega)), bitsT k6, ob_s, r_lackOf hB hw k6, ob_s, r_isQuiet hB hw k6, ob_s, ob_s, ifLe (by omega) (by omega), ifE (by omega) (by omega)]
    simp only [thn_eq, nI_add]
    have hu : mxN (fun t => if lk B t == 0 && qt B t then bts t else 0) (k + 1) = max (mxN (fun t => if lk B t == 0 && qt B t then bts t else 0) k) (if lk B k == 0 && qt B k then bts k else 0) := rfl
    rw [hu]
    generalize mxN (fun t => if lk B t == 0 && qt B t then bts t else 0) k = M at *
    by_cases c1 : bts k ≤ M
    · rw [if_pos c1]
      have : max M (if lk B k == 0 && qt B k then bts k else 0) = M := Nat.max_eq_left (by split <;> omega)
      rw [this]
    · rw [if_neg c1]
      by_cases c2 : lk B k = 0
      · have c2' : (lk B k == 0) = true := by simpa using c2
        rw [if_pos c2, c2', Bool.true_and]
        cases qt B k with
        | true => rw [if_pos rfl, if_pos rfl, Nat.max_eq_right (by omega)]
        | false => rw [if_neg (by decide), if_neg (by decide), Nat.max_eq_left (by omega)]
      · have c2' : (lk B k == 0) = false := by simpa using c2
        rw [if_neg c2, c2', Bool.false_and, if_neg (by decide), Nat.max_eq_left (by omega)]
  · dsimp only [X12_mostQuiet_b14]
    rw [hb0, show (0 : Int32) = nI 0 from rfl, g_inT (by omega) (by omega), show (1 : Int32) = nI 1 from rfl, show (31 : Int32) = nI 31 from rfl, s1I (by omega), if_pos (nI_le (Nat.le_refl _) (by omega))]
theorem mxN_get {f : Nat → Nat} : ∀ {n k : Nat}, k < n → f k ≤ mxN f n
  | 0, _, h => absurd h (Nat.not_lt_zero _)
  | n + 1, k, h => by
    show f k ≤ max (mxN f n) (f n)
    by_cases e : k = n
    · subst e; exact Nat.le_max_right _ _
    · exact Nat.le_trans (mxN_get (n := n) (by omega)) (Nat.le_max_left _ _)
theorem q_mostQuiet (hB : blk (s.2.2.1 4) 0 B) (hw : wfB B) (hR : bkR B r) : qL s s0 (pX12_mostQuiet s) (pX11_mostQuietT s0 s1 r) := by
  have h16 := hw.1
  have p16 : 2 ^ B 0 ≤ 2 ^ 16 := Nat.pow_le_pow_right (by decide) h16
  have p0 := Nat.two_pow_pos (B 0)
  have hc : lk B (2 ^ B 0 - 1) = 0 := lk_iff.mpr (fun k hk _ i hi => by
    rw [ones_tb]
    have := tb_lt (hw.2.2 k hk).2.1 hi
    exact decide_eq_true (by omega))
  obtain ⟨b, q', f1, f2, f3⟩ := x_fewest hR hw (w := 2 ^ B 0 - 1) (by omega) hc
  have b16 : b < 65536 := by have := sb_le f2.1 (by omega); omega
  have bb := bts_le b
  have hbw : bts b ≤ B 0 := by
    have := bts_mono f2.1
    rwa [bts_ones h16] at this
  unfold pX12_mostQuiet pX11_mostQuietT pX11_mostQuietm pX0_wholeSet
  simp only [thn_eq]
  rw [hR.2.1, show (1 : Int32) <<< (nI (B 0) &&& 31) = nI (2 ^ B 0) from s1I (by omega), show nI (2 ^ B 0) - (1 : Int32) = nI (2 ^ B 0 - 1) from sbI (b := 1) (by omega), ob_s, ob_s]
  unfold pX11_mostQuiett
  rw [f1, ob_s, bcT b16, ob_s, hR.2.1, sbI hbw]
  have e : mxN (fun t => if lk B t == 0 && qt B t then bts t else 0) (2 ^ B 0) = B 0 - bts b := by
    apply Nat.le_antisymm
    · apply mxN_le
      intro t ht
      cases g : (lk B t == 0 && qt B t) with
      | false => rw [if_neg (by decide)]; exact Nat.zero_le _
      | true =>
        rw [if_pos rfl]
        obtain ⟨g1, g2⟩ := Bool.and_eq_true_iff.mp g
        have st : sbN t (2 ^ B 0 - 1) := fun i hi => by
          rw [ones_tb]; exact decide_eq_true (tb_lt ht hi)
        have := f3 (bdf (2 ^ B 0 - 1) t) ⟨sb_bdf _ _, by rw [bdf_bdf st]; simpa using g1, by rw [bdf_bdf st]; exact g2⟩
        have h2 := bts_bdf st
        rw [bts_ones h16] at h2
        unfold le2 at this
        omega
    · have h2 := bts_bdf f2.1
      rw [bts_ones h16] at h2
      have := mxN_get (f := fun t => if lk B t == 0 && qt B t then bts t else 0) (n := 2 ^ B 0) (k := bdf (2 ^ B 0 - 1) b) (bdf_lt (by omega))
      rw [f2.2.1, f2.2.2] at this
      simp only [beq_self_eq_true, Bool.and_self, if_true] at this
      omega
  exact ⟨nI (B 0 - bts b), uI (uI s 1 0) 0 0, q', bd (r_mostQuiet (s := uI (uI s 1 0) 0 0) hB hw) (by rw [e]), rq_2 _ _ _, rfl⟩
end Q
