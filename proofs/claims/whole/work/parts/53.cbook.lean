/-! THE CLASS'S BOOK, against a block -/
def foe (B : Nat → Nat) (k : Nat) : Nat := mkN (fun i => wq B k i) (B 0)
def mxN (f : Nat → Nat) : Nat → Nat
  | 0 => 0
  | n + 1 => max (mxN f n) (f n)
theorem mxN_cg {f g : Nat → Nat} : ∀ {n : Nat}, (∀ k, k < n → f k = g k) → mxN f n = mxN g n
  | 0, _ => rfl
  | n + 1, h => by
    show max _ _ = max _ _
    rw [mxN_cg (fun k hk => h k (by omega)), h n (by omega)]
theorem mxN_le {f : Nat → Nat} {c : Nat} : ∀ {n : Nat}, (∀ k, k < n → f k ≤ c) → mxN f n ≤ c
  | 0, _ => Nat.zero_le _
  | n + 1, h => Nat.max_le.mpr ⟨mxN_le (fun k hk => h k (by omega)), h n (by omega)⟩
def lvF (B : Nat → Nat) : Nat → Nat → Nat
  | 0, _ => 0
  | n + 1, k => mxN (fun i => if (B (82 + k)).testBit i then lvF B n i + 1 else 0) k
theorem lvF_ok {B : Nat → Nat} : ∀ (n m k : Nat), k < n → k < m → lvF B n k = lvF B m k
  | 0, _, _, h, _ => absurd h (Nat.not_lt_zero _)
  | _ + 1, 0, _, _, h => absurd h (Nat.not_lt_zero _)
  | n + 1, m + 1, k, h1, h2 => by
    unfold lvF
    apply mxN_cg
    intro i hi
    rw [lvF_ok n m i (by omega) (by omega)]
theorem lvF_le {B : Nat → Nat} : ∀ (n k : Nat), lvF B n k ≤ k
  | 0, _ => Nat.zero_le _
  | n + 1, k => by
    unfold lvF
    apply mxN_le
    intro i hi
    have := lvF_le (B := B) n i
    split <;> omega
def lvB (B : Nat → Nat) (k : Nat) : Nat := lvF B (k + 1) k
def nmB (B : Nat → Nat) (k : Nat) : Int32 := if B (2 + k) = 2 then nI (B (34 + k)) else if B (2 + k) = 0 ∨ B (2 + k) = 3 then nI (B (18 + k)) else m1I
def bkR (B : Nat → Nat) (r : RS) : Prop := r.1 0 = nI (B 1) ∧ r.1 1 = nI (B 0) ∧ r.1 15 = nI (mkN (fun k => B (2 + k) == 4) (B 0)) ∧ ∀ k, k < B 0 →
  r.2.2.1 4 k = nI (B (2 + k)) ∧ r.2.2.1 5 k = nmB B k ∧ (B (2 + k) = 0 → r.2.2.1 6 k = nI (B (34 + k))) ∧ r.2.2.1 7 k = nI (thB B k) ∧ r.2.2.1 8 k = nI (lvB B k) ∧
  r.2.2.1 9 k = nI (B (82 + k)) ∧ r.2.2.1 10 k = nI (B (98 + k)) ∧ r.2.2.1 11 k = nI (hgr B k) ∧ r.2.2.1 12 k = nI (foe B k) ∧ (B (2 + k) = 4 → r.2.2.1 13 k = nI (B (50 + k)) ∧ r.2.2.1 14 k = nI (B (66 + k)))
theorem wfB_v {B : Nat → Nat} (hw : wfB B) {k : Nat} (hk : k < B 0) : B (98 + k) < 65536 ∧ B (82 + k) < 65536 ∧ B (98 + k) < 2 ^ 16 := by
  have h16 := hw.1
  obtain ⟨_, h1, h2, _⟩ := hw.2.2 k hk
  have : 2 ^ k ≤ 2 ^ 16 := Nat.pow_le_pow_right (by decide) (by omega)
  omega
theorem hgr_lt {B : Nat → Nat} (hw : wfB B) (k : Nat) : hgr B k < 65536 := mkN_lt' (m := 16) hw.1
theorem foe_lt {B : Nat → Nat} (hw : wfB B) (k : Nat) : foe B k < 65536 := mkN_lt' (m := 16) hw.1
theorem bdf_or (a b c : Nat) : bdf a (b ||| c) = bdf (bdf a b) c := by
  apply Nat.eq_of_testBit_eq
  intro i
  simp only [bdf_tb, Nat.testBit_or]
  cases a.testBit i <;> cases b.testBit i <;> cases c.testBit i <;> rfl
theorem bdf_0 (a : Nat) : bdf a 0 = a := by
  apply Nat.eq_of_testBit_eq
  intro i
  simp [bdf_tb]
theorem bdf_z (b : Nat) : bdf 0 b = 0 := by
  apply Nat.eq_of_testBit_eq
  intro i
  simp [bdf_tb]
section X
variable {r : RS} {B : Nat → Nat}
theorem x_isChange (hR : bkR B r) (hw : wfB B) {k : Nat} (hk : k < 2 ^ 31) : pX0_isChange r (nI k) = some (decide (k < B 0)) := by
  have h16 := hw.1
  unfold pX0_isChange
  rw [hR.2.1, show (0 : Int32) = nI 0 from rfl]
  by_cases e : k < B 0
  · simp (disch := omega) only [thn_eq, ob_s, se_l, se_r, li, lL, m1_i, nI_clamp, g_inT, leT, leF, ltT, ltF, eqT, eqF, nI_add, pk_mul, sbI, s1I, orI, dfI, Nat.reduceAdd, Nat.reduceMul, Nat.zero_add, ↓reduceIte, if_true, if_false, e, decide_true]
  · simp (disch := omega) only [thn_eq, ob_s, se_l, se_r, li, lL, m1_i, nI_clamp, g_inT, leT, leF, ltT, ltF, eqT, eqF, nI_add, pk_mul, sbI, s1I, orI, dfI, Nat.reduceAdd, Nat.reduceMul, Nat.zero_add, ↓reduceIte, if_true, if_false, e, decide_false]
theorem x_isPut (hR : bkR B r) (hw : wfB B) {k : Nat} (hk : k < B 0) : pX0_isPut r (nI k) = some (B (2 + k) == 0) := by
  have h16 := hw.1
  have k4 := (hw.2.2 k hk).1
  unfold pX0_isPut
  rw [x_isChange hR hw (by omega), ob_s, nI_clamp (by omega), (hR.2.2.2 k hk).1, show (0 : Int32) = nI 0 from rfl]
  simp (disch := omega) only [thn_eq, ob_s, se_l, se_r, li, lL, m1_i, nI_clamp, g_inT, leT, leF, ltT, ltF, eqT, eqF, nI_add, pk_mul, sbI, s1I, orI, dfI, Nat.reduceAdd, Nat.reduceMul, Nat.zero_add, ↓reduceIte, if_true, if_false, hk, decide_true, eqI]
  by_cases e : B (2 + k) = 0 <;> simp [e]
theorem x_missingFrom (hR : bkR B r) (hw : wfB B) {t : Nat} (ht : t < 65536) : pX0_missingFrom r (nI t) = some (nI (lk B t)) := by
  have h16 := hw.1
  unfold pX0_missingFrom
  refine bd (lp_acc (fun k => orN (fun k => if t.testBit k then B (98 + k) else 0) k) (B 0) (by omega) (fun k hk => ?_) ?_) ?_
  · dsimp only [X0_missingFrom_b4, X0_missingFrom_j29]
    rw [hR.2.1, isInT (by omega) (by omega), ob_s, nI_clamp (by omega), (hR.2.2.2 k hk).2.2.2.2.2.2.1]
    cases e : t.testBit k
    · simp (disch := omega) only [thn_eq, ob_s, se_l, se_r, li, lL, m1_i, nI_clamp, g_inT, leT, leF, ltT, ltF, eqT, eqF, nI_add, pk_mul, sbI, s1I, orI, dfI, Nat.reduceAdd, Nat.reduceMul, Nat.zero_add, ↓reduceIte, if_true, if_false, Bool.false_eq_true, orN, e, Nat.or_zero]
    · simp (disch := omega) only [thn_eq, ob_s, se_l, se_r, li, lL, m1_i, nI_clamp, g_inT, leT, leF, ltT, ltF, eqT, eqF, nI_add, pk_mul, sbI, s1I, orI, dfI, Nat.reduceAdd, Nat.reduceMul, Nat.zero_add, ↓reduceIte, if_true, if_false, orN, e]
  · dsimp only [X0_missingFrom_b4]
    rw [hR.2.1]
    simp (disch := omega) only [thn_eq, ob_s, se_l, se_r, li, lL, m1_i, nI_clamp, g_inT, leT, leF, ltT, ltF, eqT, eqF, nI_add, pk_mul, sbI, s1I, orI, dfI, Nat.reduceAdd, Nat.reduceMul, Nat.zero_add, ↓reduceIte, if_true, if_false]
  · try dsimp only
    rw [show (-1 : Int32) = m1I from rfl, dfI]; rfl
theorem lk_lt {B : Nat → Nat} (hw : wfB B) (t : Nat) : lk B t < 65536 := by
  have h16 := hw.1
  refine bdf_lt (n := 16) (orN_lt (fun k hk => ?_))
  split
  · exact (wfB_v hw hk).2.2
  · decide
theorem x_isClosed (hR : bkR B r) (hw : wfB B) {t : Nat} (ht : t < 65536) : pX0_isClosed r (nI t) = some (lk B t == 0) := by
  have := lk_lt hw t
  unfold pX0_isClosed
  rw [x_missingFrom hR hw ht, ob_s, show (0 : Int32) = nI 0 from rfl, ifE (by omega) (by omega)]
  by_cases e : lk B t = 0 <;> simp [e]
theorem x_without (hR : bkR B r) (hw : wfB B) {t k : Nat} (hk : k < B 0) : pX0_without r (nI t) (nI k) = some (nI (bdf t (hgr B k ||| 2 ^ k))) := by
  have h16 := hw.1
  unfold pX0_without
  rw [x_isChange hR hw (by omega), ob_s, nI_clamp (by omega), (hR.2.2.2 k hk).2.2.2.2.2.2.2.1]
  simp (disch := omega) only [thn_eq, ob_s, se_l, se_r, li, lL, m1_i, nI_clamp, g_inT, leT, leF, ltT, ltF, eqT, eqF, nI_add, pk_mul, sbI, s1I, orI, dfI, Nat.reduceAdd, Nat.reduceMul, Nat.zero_add, ↓reduceIte, if_true, if_false, hk, decide_true]
theorem x_including (hR : bkR B r) (hw : wfB B) {t k : Nat} (hk : k < B 0) : pX0_including r (nI t) (nI k) = some (nI (t ||| B (98 + k) ||| 2 ^ k)) := by
  have h16 := hw.1
  unfold pX0_including
  rw [x_isChange hR hw (by omega), ob_s, nI_clamp (by omega), (hR.2.2.2 k hk).2.2.2.2.2.2.1]
  simp (disch := omega) only [thn_eq, ob_s, se_l, se_r, li, lL, m1_i, nI_clamp, g_inT, leT, leF, ltT, ltF, eqT, eqF, nI_add, pk_mul, sbI, s1I, orI, dfI, Nat.reduceAdd, Nat.reduceMul, Nat.zero_add, ↓reduceIte, if_true, if_false, hk, decide_true]
/-- what is struck off, one SETTLE after the other -/
def qof (B : Nat → Nat) (t x : Nat) (n : Nat) : Nat := orN (fun s => if t.testBit s && B (2 + s) == 4 then (if B (50 + s) = x then 2 ^ B (66 + s) else if B (66 + s) = x then 2 ^ B (50 + s) else 0) else 0) n
theorem qof_ok {B : Nat → Nat} (hw : wfB B) {t x : Nat} (hx : x < B 0) (htx : t.testBit x = true) : bdf (foe B x &&& t) (qof B t x (B 0)) = qrs B t x := by
  apply Nat.eq_of_testBit_eq
  intro i
  rw [bdf_tb, Nat.testBit_and, qof, orN_tb, foe, mkN_tb, qrs, mkN_tb]
  unfold qr
  rw [htx]
  have e : anN (fun k => (if (t.testBit k && B (2 + k) == 4) = true then (if B (50 + k) = x then 2 ^ B (66 + k) else if B (66 + k) = x then 2 ^ B (50 + k) else 0) else 0).testBit i) (B 0) = stl B t x i := by
    unfold stl
    apply anN_cg
    intro k hk
    cases t.testBit k with
    | false => simp
    | true =>
      by_cases e4 : B (2 + k) = 4
      · have hne : B (50 + k) ≠ B (66 + k) := by
          intro q
          have := ((hw.2.2 k hk).2.2.2.2.2.2 e4).2.2
          rw [q] at this
          simp [wq] at this
        by_cases e5 : B (50 + k) = x
        · have e6 : ¬ B (66 + k) = x := fun q => hne (by rw [e5, q])
          simp [e4, e5, e6, p2_tb]
          by_cases q : B (66 + k) = i <;> simp [q, e6]
        · by_cases e6 : B (66 + k) = x
          · simp [e4, e5, e6, p2_tb]
            by_cases q : B (50 + k) = i <;> simp [q, e5]
          · simp [e4, e5, e6]
      · simp [e4]
  rw [e]
  cases decide (i < B 0) <;> cases wq B x i <;> cases t.testBit i <;> cases stl B t x i <;> rfl
theorem x_quarrelersOf (hR : bkR B r) (hw : wfB B) {t x : Nat} (ht : t < 65536) (hx : x < B 0) : pX0_quarrelersOf r (nI t) (nI x) = some (nI (qrs B t x)) := by
  have h16 := hw.1
  have fl := foe_lt hw x
  unfold pX0_quarrelersOf
  rw [x_isChange hR hw (by omega), ob_s, isInT (by omega) (by omega), ob_s, nI_clamp (by omega), (hR.2.2.2 x hx).2.2.2.2.2.2.2.2.1]
  simp (disch := omega) only [hx, decide_true, if_true, g_inT, thn_eq]
  cases e : t.testBit x with
  | false =>
    have : qrs B t x = 0 := by
      apply Nat.eq_of_testBit_eq
      intro i
      rw [qrs, mkN_tb, qr, e]; simp
    rw [this]; rfl
  | true =>
    rw [if_pos rfl, anI]
    have al : foe B x &&& t < 65536 := an_lt (n := 16) _ fl
    have hq : ∀ k, bdf (foe B x &&& t) (qof B t x k) < 65536 := fun k => bdf_lt (n := 16) al
    obtain ⟨y, h1, h2⟩ := lp_m (body := fun (q : Int32 × Int32) => X0_quarrelersOf_b30 (nI t) (nI x) q.1 q.2 r) (I := fun m q => ∃ k, k ≤ B 0 ∧ m = B 0 - k ∧ q = (nI (bdf (foe B x &&& t) (qof B t x k)), nI k)) (P := fun y => y = nI (bdf (foe B x &&& t) (qof B t x (B 0)))) (fun m q hi => by
      obtain ⟨k, hk, rfl, rfl⟩ := hi
      have hqk := hq k
      dsimp only [X0_quarrelersOf_b30, X0_quarrelersOf_j110]
      rw [hR.2.1, hR.2.2.1]
      rcases Nat.lt_or_eq_of_le hk with q | q
      · by_cases e0 : bdf (foe B x &&& t) (qof B t x k) = 0
        · refine Or.inr ⟨_, ?_, by rw [if_neg (nI_ge q (by omega)), if_pos (by rw [e0]; rfl)]⟩
          have : ∀ d, bdf (foe B x &&& t) (qof B t x (k + d)) = 0 := by
            intro d
            induction d with
            | zero => exact e0
            | succ d ih =>
              show bdf _ (qof B t x (k + d) ||| _) = 0
              rw [bdf_or, ih, bdf_z]
          have := this (B 0 - k)
          rw [show k + (B 0 - k) = B 0 by omega] at this
          rw [this, e0]
        · refine Or.inl ⟨B 0 - (k + 1), (nI (bdf (foe B x &&& t) (qof B t x (k + 1))), nI (k + 1)), by omega, ⟨k + 1, by omega, rfl, rfl⟩, ?_⟩
          rw [anI, isInT (by exact Nat.lt_of_lt_of_le (an_lt (n := 16) _ (mkN_lt' (m := 16) h16)) (by decide)) (by omega), ob_s, Nat.testBit_and, mkN_tb]
          have hs : qof B t x (k + 1) = qof B t x k ||| (if t.testBit k && B (2 + k) == 4 then (if B (50 + k) = x then 2 ^ B (66 + k) else if B (66 + k) = x then 2 ^ B (50 + k) else 0) else 0) := rfl
          rw [hs, bdf_or, nI_clamp (by omega)]
          generalize bdf (foe B x &&& t) (qof B t x k) = Q at *
          by_cases e4 : B (2 + k) = 4
          · have hb := hR.2.2.2 k q
            obtain ⟨w1, w2⟩ := hb.2.2.2.2.2.2.2.2.2 e4
            obtain ⟨_, _, _, _, ho, _, hs⟩ := hw.2.2 k q
            have o1 := (ho (by omega)).1
            have o2 := (hs e4).1
            rw [w1, w2]
            cases ek : t.testBit k with
            | false => simp (disch := omega) only [thn_eq, ob_s, se_l, se_r, li, lL, m1_i, nI_clamp, g_inT, leT, leF, ltT, ltF, eqT, eqF, nI_add, pk_mul, sbI, s1I, orI, dfI, Nat.reduceAdd, Nat.reduceMul, Nat.zero_add, ↓reduceIte, if_true, if_false, eqI, q, e4, e0, decide_true, Bool.and_false, Bool.false_and, Bool.false_eq_true, bdf_0]
            | true =>
              by_cases e5 : B (50 + k) = x
              · simp (disch := omega) only [thn_eq, ob_s, se_l, se_r, li, lL, m1_i, nI_clamp, g_inT, leT, leF, ltT, ltF, eqT, eqF, nI_add, pk_mul, sbI, s1I, orI, dfI, Nat.reduceAdd, Nat.reduceMul, Nat.zero_add, ↓reduceIte, if_true, if_false, eqI, q, e4, e0, e5, decide_true, beq_self_eq_true, Bool.and_self]
              · by_cases e6 : B (66 + k) = x
                · simp (disch := omega) only [thn_eq, ob_s, se_l, se_r, li, lL, m1_i, nI_clamp, g_inT, leT, leF, ltT, ltF, eqT, eqF, nI_add, pk_mul, sbI, s1I, orI, dfI, Nat.reduceAdd, Nat.reduceMul, Nat.zero_add, ↓reduceIte, if_true, if_false, eqI, q, e4, e0, e5, e6, decide_true, beq_self_eq_true, Bool.and_self]
                · simp (disch := omega) only [thn_eq, ob_s, se_l, se_r, li, lL, m1_i, nI_clamp, g_inT, leT, leF, ltT, ltF, eqT, eqF, nI_add, pk_mul, sbI, s1I, orI, dfI, Nat.reduceAdd, Nat.reduceMul, Nat.zero_add, ↓reduceIte, if_true, if_false, eqI, q, e4, e0, e5, e6, decide_true, beq_self_eq_true, Bool.and_self, bdf_0]
          · have e4' : (B (2 + k) == 4) = false := by simpa using e4
            simp (disch := omega) only [thn_eq, ob_s, se_l, se_r, li, lL, m1_i, nI_clamp, g_inT, leT, leF, ltT, ltF, eqT, eqF, nI_add, pk_mul, sbI, s1I, orI, dfI, Nat.reduceAdd, Nat.reduceMul, Nat.zero_add, ↓reduceIte, if_true, if_false, eqI, q, e4', e0, decide_true, Bool.and_false, Bool.false_and, Bool.false_eq_true, bdf_0]
      · subst q
        refine Or.inr ⟨_, rfl, ?_⟩
        rw [if_pos (nI_le (Nat.le_refl _) (by omega))]) FU (B 0) (nI (foe B x &&& t), nI 0) (by show B 0 < 100000; omega) ⟨0, Nat.zero_le _, rfl, by rw [show qof B t x 0 = 0 from rfl, bdf_0]⟩
    rw [qof_ok hw hx e] at h2
    refine bd (x := y) h1 ?_
    rw [h2]
theorem x_countQuarrels (hR : bkR B r) (hw : wfB B) {t : Nat} (ht : t < 65536) : pX0_countQuarrels r (nI t) = some (nI (qsm B t / 2)) := by
  have h16 := hw.1
  unfold pX0_countQuarrels
  refine bd (lp_acc (fun k => smN (fun a => bts (qrs B t a)) k) (B 0) (by omega) (fun k hk => ?_) ?_) ?_
  · dsimp only [X0_countQuarrels_b4]
    rw [hR.2.1, x_quarrelersOf hR hw ht hk, ob_s, bcT (qrs_lt hw _ _), ob_s]
    simp (disch := omega) only [thn_eq, ob_s, se_l, se_r, li, lL, m1_i, nI_clamp, g_inT, leT, leF, ltT, ltF, eqT, eqF, nI_add, pk_mul, sbI, s1I, orI, dfI, Nat.reduceAdd, Nat.reduceMul, Nat.zero_add, ↓reduceIte, if_true, if_false, smN]
  · dsimp only [X0_countQuarrels_b4]
    rw [hR.2.1]
    simp (disch := omega) only [thn_eq, ob_s, se_l, se_r, li, lL, m1_i, nI_clamp, g_inT, leT, leF, ltT, ltF, eqT, eqF, nI_add, pk_mul, sbI, s1I, orI, dfI, Nat.reduceAdd, Nat.reduceMul, Nat.zero_add, ↓reduceIte, if_true, if_false]
  · try dsimp only
    have : smN (fun a => bts (qrs B t a)) (B 0) ≤ B 0 * 16 := smN_le (fun k _ => bts_le _)
    rw [show (2 : Int32) = nI 2 from rfl, pk_div (by omega) (by omega) (by omega)]; rfl
theorem x_quarrelAlike (hR : bkR B r) (hw : wfB B) {t u : Nat} (ht : t < 65536) (hu : u < 65536) : pX0_quarrelAlike r (nI t) (nI u) = some (!anN (fun x => !(qrs B t x == qrs B u x)) (B 0)) := by
  have h16 := hw.1
  unfold pX0_quarrelAlike
  refine bd (lp_any (fun x => !(qrs B t x == qrs B u x)) (B 0) (by omega) (fun k hk => ?_) ?_) ?_
  · dsimp only [X0_quarrelAlike_b2]
    have q1 := qrs_lt hw t k
    have q2 := qrs_lt hw u k
    rw [hR.2.1, x_quarrelersOf hR hw ht hk, ob_s, x_quarrelersOf hR hw hu hk, ob_s]
    simp (disch := omega) only [thn_eq, ob_s, se_l, se_r, li, lL, m1_i, nI_clamp, g_inT, leT, leF, ltT, ltF, eqT, eqF, nI_add, pk_mul, sbI, s1I, orI, dfI, Nat.reduceAdd, Nat.reduceMul, Nat.zero_add, ↓reduceIte, if_true, if_false, eqI]
    by_cases e : qrs B t k = qrs B u k <;> simp [e]
  · dsimp only [X0_quarrelAlike_b2]
    rw [hR.2.1]
    simp (disch := omega) only [thn_eq, ob_s, se_l, se_r, li, lL, m1_i, nI_clamp, g_inT, leT, leF, ltT, ltF, eqT, eqF, nI_add, pk_mul, sbI, s1I, orI, dfI, Nat.reduceAdd, Nat.reduceMul, Nat.zero_add, ↓reduceIte, if_true, if_false]
  · cases anN _ (B 0) <;> rfl
theorem x_leftOutIn (hR : bkR B r) (hw : wfB B) {t : Nat} (ht : t < 65536) : pX0_leftOutIn r (nI t) = some (nI (mkN (fun k => lo B t k) 16)) := by
  have h16 := hw.1
  unfold pX0_leftOutIn
  refine bd (lp_acc (fun k => orN (fun s => if t.testBit s && B (2 + s) == 4 then 2 ^ B (66 + s) else 0) k) (B 0) (by omega) (fun k hk => ?_) ?_) ?_
  · dsimp only [X0_leftOutIn_b4, X0_leftOutIn_j36]
    rw [hR.2.1, hR.2.2.1, anI, isInT (by exact Nat.lt_of_lt_of_le (an_lt (n := 16) _ (mkN_lt' (m := 16) h16)) (by decide)) (by omega), ob_s, Nat.testBit_and, mkN_tb, nI_clamp (by omega)]
    by_cases e4 : B (2 + k) = 4
    · obtain ⟨w1, w2⟩ := (hR.2.2.2 k hk).2.2.2.2.2.2.2.2.2 e4
      obtain ⟨_, _, _, _, ho, _, hs⟩ := hw.2.2 k hk
      have o2 := (hs e4).1
      rw [w2]
      cases ek : t.testBit k with
      | false => simp (disch := omega) only [thn_eq, ob_s, se_l, se_r, li, lL, m1_i, nI_clamp, g_inT, leT, leF, ltT, ltF, eqT, eqF, nI_add, pk_mul, sbI, s1I, orI, dfI, Nat.reduceAdd, Nat.reduceMul, Nat.zero_add, ↓reduceIte, if_true, if_false, orN, ek, hk, e4, decide_true, Bool.and_false, Bool.false_and, Bool.false_eq_true, Nat.or_zero]
      | true => simp (disch := omega) only [thn_eq, ob_s, se_l, se_r, li, lL, m1_i, nI_clamp, g_inT, leT, leF, ltT, ltF, eqT, eqF, nI_add, pk_mul, sbI, s1I, orI, dfI, Nat.reduceAdd, Nat.reduceMul, Nat.zero_add, ↓reduceIte, if_true, if_false, orN, ek, hk, e4, decide_true, beq_self_eq_true, Bool.and_self]
    · have e4' : (B (2 + k) == 4) = false := by simpa using e4
      simp (disch := omega) only [thn_eq, ob_s, se_l, se_r, li, lL, m1_i, nI_clamp, g_inT, leT, leF, ltT, ltF, eqT, eqF, nI_add, pk_mul, sbI, s1I, orI, dfI, Nat.reduceAdd, Nat.reduceMul, Nat.zero_add, ↓reduceIte, if_true, if_false, orN, hk, e4', decide_true, Bool.and_false, Bool.false_and, Bool.false_eq_true, Nat.or_zero]
  · dsimp only [X0_leftOutIn_b4]
    rw [hR.2.1]
    simp (disch := omega) only [thn_eq, ob_s, se_l, se_r, li, lL, m1_i, nI_clamp, g_inT, leT, leF, ltT, ltF, eqT, eqF, nI_add, pk_mul, sbI, s1I, orI, dfI, Nat.reduceAdd, Nat.reduceMul, Nat.zero_add, ↓reduceIte, if_true, if_false]
  · try dsimp only
    congr 2
    apply Nat.eq_of_testBit_eq
    intro i
    rw [orN_tb, mkN_tb]
    unfold lo
    by_cases hi : i < 16
    · rw [decide_eq_true hi, Bool.true_and]
      apply anN_cg
      intro k hk
      by_cases e : (t.testBit k && B (2 + k) == 4) = true
      · rw [if_pos e, p2_tb, e, Bool.true_and]
        by_cases q : B (66 + k) = i <;> simp [q]
      · have e' : (t.testBit k && B (2 + k) == 4) = false := by simpa using e
        rw [if_neg e, e', Nat.zero_testBit]; rfl
    · rw [decide_eq_false hi, Bool.false_and, anN_f]
      intro k hk
      by_cases e : (t.testBit k && B (2 + k) == 4) = true
      · rw [if_pos e, p2_tb]
        have e4 : B (2 + k) = 4 := by
          have := (Bool.and_eq_true_iff.mp e).2
          simpa using this
        have o2 := ((hw.2.2 k hk).2.2.2.2.2.2 e4).1
        simp; omega
      · rw [if_neg e, Nat.zero_testBit]
theorem x_ofThing (hR : bkR B r) (hw : wfB B) {t p kd : Nat} (ht : t < 65536) (hp : p < B 0) (hkd : kd ≤ 4) : pX0_ofThing r (nI (bdf t (mkN (fun k => lo B t k) 16))) (nI p) (nI kd) = some (nI (allT B t p kd)) := by
  have h16 := hw.1
  have hl : bdf t (mkN (fun k => lo B t k) 16) < 65536 := bdf_lt (n := 16) ht
  unfold pX0_ofThing
  refine bd (lp_acc (fun k => mkN (fun k => t.testBit k && B (2 + k) == kd && thB B k == p && !lo B t k) k) (B 0) (by omega) (fun k hk => ?_) ?_) ?_
  · dsimp only [X0_ofThing_b6, X0_ofThing_j55]
    have v1 := (hw.2.2 k hk).1
    have t1 := (thB_lt hw hk).1
    rw [hR.2.1, isInT (by omega) (by omega), ob_s, nI_clamp (by omega), (hR.2.2.2 k hk).1, (hR.2.2.2 k hk).2.2.2.1, bdf_tb, mkN_tb]
    simp (disch := omega) only [thn_eq, ob_s, se_l, se_r, li, lL, m1_i, nI_clamp, g_inT, leT, leF, ltT, ltF, eqT, eqF, nI_add, pk_mul, sbI, s1I, orI, dfI, Nat.reduceAdd, Nat.reduceMul, Nat.zero_add, ↓reduceIte, if_true, if_false, eqI, show k < 16 from by omega, decide_true, Bool.true_and]
    rw [mkN_s]
    generalize mkN (fun k => t.testBit k && B (2 + k) == kd && thB B k == p && !lo B t k) k = M
    cases t.testBit k <;> by_cases e2 : B (2 + k) = kd <;> by_cases e3 : thB B k = p <;> cases lo B t k <;> simp [e2, e3]
  · dsimp only [X0_ofThing_b6]
    rw [hR.2.1]
    simp (disch := omega) only [thn_eq, ob_s, se_l, se_r, li, lL, m1_i, nI_clamp, g_inT, leT, leF, ltT, ltF, eqT, eqF, nI_add, pk_mul, sbI, s1I, orI, dfI, Nat.reduceAdd, Nat.reduceMul, Nat.zero_add, ↓reduceIte, if_true, if_false]
  · rfl
theorem x_isGone (hR : bkR B r) (hw : wfB B) {t p : Nat} (ht : t < 65536) (hp : p < B 0) : pX0_isGone r (nI t) (nI (mkN (fun k => lo B t k) 16)) (nI p) = some (anN (fun x => t.testBit x && B (2 + x) == 1 && thB B x == p && !lo B t x && qrs B t x == 0) (B 0)) := by
  have h16 := hw.1
  have al_lt : allT B t p 1 < 65536 := mkN_lt' (m := 16) h16
  unfold pX0_isGone
  rw [show (-1 : Int32) = m1I from rfl, dfI, show (1 : Int32) = nI 1 from rfl, x_ofThing hR hw ht hp (by omega), ob_s]
  refine bd (lp_any (fun x => t.testBit x && B (2 + x) == 1 && thB B x == p && !lo B t x && qrs B t x == 0) (B 0) (by omega) (fun k hk => ?_) ?_) ?_
  · dsimp only [X0_isGone_b16, X0_isGone_j47]
    have q1 := qrs_lt hw t k
    rw [hR.2.1, isInT (by omega) (by omega), ob_s, x_quarrelersOf hR hw ht hk, ob_s, allT, mkN_tb, decide_eq_true hk, Bool.true_and]
    simp (disch := omega) only [thn_eq, ob_s, se_l, se_r, li, lL, m1_i, nI_clamp, g_inT, leT, leF, ltT, ltF, eqT, eqF, nI_add, pk_mul, sbI, s1I, orI, dfI, Nat.reduceAdd, Nat.reduceMul, Nat.zero_add, ↓reduceIte, if_true, if_false, eqI]
    cases (t.testBit k && B (2 + k) == 1 && thB B k == p && !lo B t k) <;> by_cases e4 : qrs B t k = 0 <;> simp [e4]
  · dsimp only [X0_isGone_b16]
    rw [hR.2.1]
    simp (disch := omega) only [thn_eq, ob_s, se_l, se_r, li, lL, m1_i, nI_clamp, g_inT, leT, leF, ltT, ltF, eqT, eqF, nI_add, pk_mul, sbI, s1I, orI, dfI, Nat.reduceAdd, Nat.reduceMul, Nat.zero_add, ↓reduceIte, if_true, if_false]
  · cases anN _ (B 0) <;> rfl
end X
