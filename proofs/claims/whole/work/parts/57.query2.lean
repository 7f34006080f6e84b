/-! QUESTIONS, more -/
theorem b2i_f : b2i false = nI 0 := rfl
theorem b2i_t : b2i true = nI 1 := rfl
theorem nb_comm (a b : Nat) : (a == b) = (b == a) := by
  by_cases h : a = b
  · rw [h]
  · have h2 : b ≠ a := fun q => h q.symm
    rw [beq_eq_false_iff_ne.mpr h, beq_eq_false_iff_ne.mpr h2]
theorem smN_add {f g : Nat → Nat} : ∀ n, smN (fun k => f k + g k) n = smN f n + smN g n
  | 0 => rfl
  | n + 1 => by
    show smN _ n + (f n + g n) = (smN f n + f n) + (smN g n + g n)
    rw [smN_add n]; omega
theorem smN_sym {f : Nat → Nat → Nat} (hs : ∀ a b, f a b = f b a) (h0 : ∀ a, f a a = 0) : ∀ n, smN (fun c => smN (f c) n) n = 2 * smN (fun a => smN (f a) a) n
  | 0 => rfl
  | n + 1 => by
    show smN (fun c => smN (f c) n + f c n) n + (smN (f n) n + f n n) = 2 * (smN (fun a => smN (f a) a) n + smN (f n) n)
    rw [smN_add, smN_sym hs h0 n, h0, show smN (fun c => f c n) n = smN (f n) n from smN_cg (fun k _ => hs k n)]
    omega
theorem fgt_sym (a b : Nat) : fgt a b = fgt b a := by
  unfold fgt
  cases (a == 1) <;> cases (a == 2) <;> cases (a == 3) <;> cases (b == 1) <;> cases (b == 2) <;> cases (b == 3) <;> rfl
theorem wq_sym (B : Nat → Nat) (a b : Nat) : wq B a b = wq B b a := by
  unfold wq
  rw [fgt_sym (B (2 + a)), nb_comm a b, nb_comm (thB B a) (thB B b)]
  cases (B (98 + a)).testBit b <;> cases (B (98 + b)).testBit a <;> simp
theorem wq_self (B : Nat → Nat) (a : Nat) : wq B a a = false := by
  unfold wq; simp
theorem bts_mk {p : Nat → Bool} {n : Nat} (hn : n ≤ 16) : bts (mkN p n) = smN (fun k => (p k).toNat) n := by
  rw [bts_n (n := n) (mkN_lt _ _) hn]
  exact smN_cg (fun k hk => by rw [mkN_tb, decide_eq_true hk, Bool.true_and])
theorem ne_out {a0 : Int32} {m t : Nat} (h : outI a0 m) (ht : t < m) (hm : m < 2 ^ 31) : ¬ a0 = nI t := by
  rintro rfl
  rcases h with h | ⟨_, h, _⟩
  · have h : nI t < nI 0 := h
    exact nI_nlt (Nat.zero_le t) (by omega) h
  · exact nI_ge ht (by omega) h
section Q
variable {s r : RS} {B : Nat → Nat}
theorem r_many2 (hB : blk (s.2.2.1 4) 0 B) (hw : wfB B) : a_loop (fun (q : Int32 × Int32) => X12_many_b44 (nI 2) q.1 q.2 s) FU ((0 : Int32), (0 : Int32)) = some (nI (smN (fun a => (B (2 + a) == 0).toNat) (B 0))) := by
  have h16 := hw.1
  have hb0 : s.2.2.1 4 (0 : Int32).toNatClampNeg = nI (B 0) := hB.1 0 (by omega)
  have inner : ∀ a m, a < 16 → a_loop (fun (q : Int32 × Int32) => X12_many_b79 (nI 2) (nI a) q.1 q.2 s) FU (nI m, nI 0) = some (nI m) := by
    intro a m ha
    refine lp_acc (fun _ => m) a (by omega) (fun k hk => ?_) ?_
    · dsimp only [X12_many_b79, X12_many_j106, X12_many_j107]
      simp (disch := omega) only [thn_eq, ob_s, se_l, se_r, li, lL, m1_i, nI_clamp, g_inT, leT, leF, ltT, ltF, eqT, eqF, nI_add, pk_mul, sbI, s1I, orI, dfI, Nat.reduceAdd, Nat.reduceMul, Nat.zero_add, ↓reduceIte, if_true, if_false, b2i_f, Nat.add_zero]
    · dsimp only [X12_many_b79]
      simp (disch := omega) only [thn_eq, ob_s, se_l, se_r, li, lL, m1_i, nI_clamp, g_inT, leT, leF, ltT, ltF, eqT, eqF, nI_add, pk_mul, sbI, s1I, orI, dfI, Nat.reduceAdd, Nat.reduceMul, Nat.zero_add, ↓reduceIte, if_true, if_false]
  refine lp_acc (fun k => smN (fun a => (B (2 + a) == 0).toNat) k) (B 0) (by omega) (fun k hk => ?_) ?_
  · dsimp only [X12_many_b44, X12_many_j74, X12_many_j73]
    have v := hB.2 (2 + k)
    rw [hb0, r_kind hB (by omega), ob_s]
    by_cases e : B (2 + k) = 0
    · simp (disch := omega) only [thn_eq, ob_s, se_l, se_r, li, lL, m1_i, nI_clamp, g_inT, leT, leF, ltT, ltF, eqT, eqF, nI_add, pk_mul, sbI, s1I, orI, dfI, Nat.reduceAdd, Nat.reduceMul, Nat.zero_add, ↓reduceIte, if_true, if_false, e, b2i_f, b2i_t, inner, smN, beq_self_eq_true, Bool.toNat_true]
    · have e' : (B (2 + k) == 0) = false := by simpa using e
      simp (disch := omega) only [thn_eq, ob_s, se_l, se_r, li, lL, m1_i, nI_clamp, g_inT, leT, leF, ltT, ltF, eqT, eqF, nI_add, pk_mul, sbI, s1I, orI, dfI, Nat.reduceAdd, Nat.reduceMul, Nat.zero_add, ↓reduceIte, if_true, if_false, e', b2i_f, b2i_t, Nat.add_zero, inner, smN, Bool.toNat_false]
  · dsimp only [X12_many_b44]
    rw [hb0]
    simp (disch := omega) only [thn_eq, ob_s, se_l, se_r, li, lL, m1_i, nI_clamp, g_inT, leT, leF, ltT, ltF, eqT, eqF, nI_add, pk_mul, sbI, s1I, orI, dfI, Nat.reduceAdd, Nat.reduceMul, Nat.zero_add, ↓reduceIte, if_true, if_false]
theorem r_many3 (hB : blk (s.2.2.1 4) 0 B) (hw : wfB B) : a_loop (fun (q : Int32 × Int32) => X12_many_b44 (nI 3) q.1 q.2 s) FU ((0 : Int32), (0 : Int32)) = some (nI (smN (fun a => smN (fun b => (wq B a b).toNat) a) (B 0))) := by
  have h16 := hw.1
  have hb0 : s.2.2.1 4 (0 : Int32).toNatClampNeg = nI (B 0) := hB.1 0 (by omega)
  have inner : ∀ a m, a < B 0 → a_loop (fun (q : Int32 × Int32) => X12_many_b79 (nI 3) (nI a) q.1 q.2 s) FU (nI m, nI 0) = some (nI (m + smN (fun b => (wq B a b).toNat) a)) := by
    intro a m ha
    refine lp_acc (fun k => m + smN (fun b => (wq B a b).toNat) k) a (by omega) (fun k hk => ?_) ?_
    · dsimp only [X12_many_b79, X12_many_j106, X12_many_j107]
      rw [r_wouldQuarrel hB hw ha (by omega), ob_s]
      cases e : wq B a k
      · simp (disch := omega) only [thn_eq, ob_s, se_l, se_r, li, lL, m1_i, nI_clamp, g_inT, leT, leF, ltT, ltF, eqT, eqF, nI_add, pk_mul, sbI, s1I, orI, dfI, Nat.reduceAdd, Nat.reduceMul, Nat.zero_add, ↓reduceIte, if_true, if_false, b2i_f, Nat.add_zero, smN, e, Bool.toNat_false, Bool.false_eq_true]
      · simp (disch := omega) only [thn_eq, ob_s, se_l, se_r, li, lL, m1_i, nI_clamp, g_inT, leT, leF, ltT, ltF, eqT, eqF, nI_add, pk_mul, sbI, s1I, orI, dfI, Nat.reduceAdd, Nat.reduceMul, Nat.zero_add, ↓reduceIte, if_true, if_false, b2i_t, smN, e, Bool.toNat_true, Nat.add_assoc]
    · dsimp only [X12_many_b79]
      simp (disch := omega) only [thn_eq, ob_s, se_l, se_r, li, lL, m1_i, nI_clamp, g_inT, leT, leF, ltT, ltF, eqT, eqF, nI_add, pk_mul, sbI, s1I, orI, dfI, Nat.reduceAdd, Nat.reduceMul, Nat.zero_add, ↓reduceIte, if_true, if_false]
  refine lp_acc (fun k => smN (fun a => smN (fun b => (wq B a b).toNat) a) k) (B 0) (by omega) (fun k hk => ?_) ?_
  · dsimp only [X12_many_b44, X12_many_j74, X12_many_j73]
    rw [hb0]
    simp (disch := omega) only [thn_eq, ob_s, se_l, se_r, li, lL, m1_i, nI_clamp, g_inT, leT, leF, ltT, ltF, eqT, eqF, nI_add, pk_mul, sbI, s1I, orI, dfI, Nat.reduceAdd, Nat.reduceMul, Nat.zero_add, ↓reduceIte, if_true, if_false, b2i_f, Nat.add_zero, inner, smN]
  · dsimp only [X12_many_b44]
    rw [hb0]
    simp (disch := omega) only [thn_eq, ob_s, se_l, se_r, li, lL, m1_i, nI_clamp, g_inT, leT, leF, ltT, ltF, eqT, eqF, nI_add, pk_mul, sbI, s1I, orI, dfI, Nat.reduceAdd, Nat.reduceMul, Nat.zero_add, ↓reduceIte, if_true, if_false]
theorem x_allOfKind (hR : bkR B r) (hw : wfB B) : pX0_allOfKind r (0 : Int32) = some (nI (mkN (fun k => B (2 + k) == 0) (B 0))) := by
  have h16 := hw.1
  unfold pX0_allOfKind
  refine bd (lp_acc (fun k => mkN (fun k => B (2 + k) == 0) k) (B 0) (by omega) (fun k hk => ?_) ?_) rfl
  · dsimp only [X0_allOfKind_b4, X0_allOfKind_j28]
    have v := (hw.2.2 k hk).1
    rw [hR.2.1, nI_clamp (by omega), (hR.2.2.2 k hk).1]
    by_cases e : B (2 + k) = 0
    · simp (disch := omega) only [thn_eq, ob_s, se_l, se_r, li, lL, m1_i, nI_clamp, g_inT, leT, leF, ltT, ltF, eqT, eqF, nI_add, pk_mul, sbI, s1I, orI, dfI, Nat.reduceAdd, Nat.reduceMul, Nat.zero_add, ↓reduceIte, if_true, if_false, e, mkN, beq_self_eq_true]
    · have e' : (B (2 + k) == 0) = false := by simpa using e
      simp (disch := omega) only [thn_eq, ob_s, se_l, se_r, li, lL, m1_i, nI_clamp, g_inT, leT, leF, ltT, ltF, eqT, eqF, nI_add, pk_mul, sbI, s1I, orI, dfI, Nat.reduceAdd, Nat.reduceMul, Nat.zero_add, ↓reduceIte, if_true, if_false, e', mkN, Bool.false_eq_true, Nat.or_zero]
  · dsimp only [X0_allOfKind_b4]
    rw [hR.2.1]
    simp (disch := omega) only [thn_eq, ob_s, se_l, se_r, li, lL, m1_i, nI_clamp, g_inT, leT, leF, ltT, ltF, eqT, eqF, nI_add, pk_mul, sbI, s1I, orI, dfI, Nat.reduceAdd, Nat.reduceMul, Nat.zero_add, ↓reduceIte, if_true, if_false]
theorem x_countFoes (hR : bkR B r) (hw : wfB B) : pX0_countFoes r = some (nI (smN (fun a => smN (fun b => (wq B a b).toNat) a) (B 0))) := by
  have h16 := hw.1
  unfold pX0_countFoes
  have hle : smN (fun c => bts (foe B c)) (B 0) ≤ B 0 * 16 := smN_le (fun k _ => bts_le _)
  have he : smN (fun c => bts (foe B c)) (B 0) = 2 * smN (fun a => smN (fun b => (wq B a b).toNat) a) (B 0) := by
    rw [← smN_sym (f := fun a b => (wq B a b).toNat) (fun a b => by rw [wq_sym]) (fun a => by rw [wq_self]; rfl) (B 0)]
    exact smN_cg (fun k _ => bts_mk h16)
  refine bd (lp_acc (fun k => smN (fun c => bts (foe B c)) k) (B 0) (by omega) (fun k hk => ?_) ?_) ?_
  · dsimp only [X0_countFoes_b4]
    rw [hR.2.1, nI_clamp (by omega), (hR.2.2.2 k hk).2.2.2.2.2.2.2.2.1, bcT (foe_lt hw k), ob_s]
    simp (disch := omega) only [thn_eq, ob_s, se_l, se_r, li, lL, m1_i, nI_clamp, g_inT, leT, leF, ltT, ltF, eqT, eqF, nI_add, pk_mul, sbI, s1I, orI, dfI, Nat.reduceAdd, Nat.reduceMul, Nat.zero_add, ↓reduceIte, if_true, if_false, smN]
  · dsimp only [X0_countFoes_b4]
    rw [hR.2.1]
    simp (disch := omega) only [thn_eq, ob_s, se_l, se_r, li, lL, m1_i, nI_clamp, g_inT, leT, leF, ltT, ltF, eqT, eqF, nI_add, pk_mul, sbI, s1I, orI, dfI, Nat.reduceAdd, Nat.reduceMul, Nat.zero_add, ↓reduceIte, if_true, if_false]
  · rw [show (2 : Int32) = nI 2 from rfl, pk_div (by omega) (by omega) (by omega), he, Nat.mul_div_cancel_left _ (by decide)]
theorem r_levelOf (hB : blk (s.2.2.1 4) 0 B) (hw : wfB B) : ∀ (n : Nat) {k : Nat}, k < n → k < B 0 → pX12_levelOf n s (nI k) = some (nI (lvF B n k))
  | 0, _, h, _ => absurd h (Nat.not_lt_zero _)
  | n + 1, k, hn, hk => by
    have h16 := hw.1
    have hc : ∀ j, j < 114 → s.2.2.1 4 j = nI (B j) := fun j h => by have := hB.1 j h; rwa [Nat.zero_add] at this
    have v := hB.2 (82 + k)
    show pX12_levelOf_f (pX12_levelOf n) s (nI k) = _
    unfold pX12_levelOf_f
    refine bd (lp_acc (fun j => mxN (fun i => if (B (82 + k)).testBit i then lvF B n i + 1 else 0) j) k (by omega) (fun j hj => ?_) ?_) rfl
    · dsimp only [X12_levelOf_b4, X12_levelOf_j37]
      have hl := lvF_le (B := B) n j
      have hm : mxN (fun i => if (B (82 + k)).testBit i then lvF B n i + 1 else 0) j ≤ 16 := mxN_le (fun i hi => by
        have := lvF_le (B := B) n i
        split <;> omega)
      have e1 : s.2.2.1 4 ((82 : Int32) + nI k).toNatClampNeg = nI (B (82 + k)) := by
        rw [show (82 : Int32) = nI 82 from rfl, nI_add, nI_clamp (by omega), hc _ (by omega)]
      rw [e1, hasT (by omega) (by omega), ob_s, r_levelOf hB hw n (k := j) (by omega) (by omega), ob_s]
      cases e : (B (82 + k)).testBit j
      · have e2 : mxN (fun i => if (B (82 + k)).testBit i then lvF B n i + 1 else 0) (j + 1) = mxN (fun i => if (B (82 + k)).testBit i then lvF B n i + 1 else 0) j := by
          show max _ (if (B (82 + k)).testBit j = true then lvF B n j + 1 else 0) = _
          rw [e, if_neg (by decide)]; exact Nat.max_zero _
        rw [e2]
        simp (disch := omega) only [thn_eq, ob_s, se_l, se_r, li, lL, m1_i, nI_clamp, g_inT, leT, leF, ltT, ltF, eqT, eqF, nI_add, pk_mul, sbI, s1I, orI, dfI, Nat.reduceAdd, Nat.reduceMul, Nat.zero_add, ↓reduceIte, if_true, if_false, Bool.false_eq_true]
      · have e2 : mxN (fun i => if (B (82 + k)).testBit i then lvF B n i + 1 else 0) (j + 1) = max (mxN (fun i => if (B (82 + k)).testBit i then lvF B n i + 1 else 0) j) (lvF B n j + 1) := by
          show max _ (if (B (82 + k)).testBit j = true then lvF B n j + 1 else 0) = _
          rw [e, if_pos rfl]
        rw [e2]
        generalize mxN (fun i => if (B (82 + k)).testBit i then lvF B n i + 1 else 0) j = M at *
        unfold pJ9_max_7cf53
        rw [show (1 : Int32) = nI 1 from rfl, nI_add, ifLt (by omega) (by omega)]
        by_cases q : M < lvF B n j + 1
        · rw [if_pos q, Nat.max_eq_right (by omega)]
          simp (disch := omega) only [thn_eq, ob_s, se_l, se_r, li, lL, m1_i, nI_clamp, g_inT, leT, leF, ltT, ltF, eqT, eqF, nI_add, pk_mul, sbI, s1I, orI, dfI, Nat.reduceAdd, Nat.reduceMul, Nat.zero_add, ↓reduceIte, if_true, if_false]
        · rw [if_neg q, Nat.max_eq_left (by omega)]
          simp (disch := omega) only [thn_eq, ob_s, se_l, se_r, li, lL, m1_i, nI_clamp, g_inT, leT, leF, ltT, ltF, eqT, eqF, nI_add, pk_mul, sbI, s1I, orI, dfI, Nat.reduceAdd, Nat.reduceMul, Nat.zero_add, ↓reduceIte, if_true, if_false]
    · dsimp only [X12_levelOf_b4]
      simp (disch := omega) only [thn_eq, ob_s, se_l, se_r, li, lL, m1_i, nI_clamp, g_inT, leT, leF, ltT, ltF, eqT, eqF, nI_add, pk_mul, sbI, s1I, orI, dfI, Nat.reduceAdd, Nat.reduceMul, Nat.zero_add, ↓reduceIte, if_true, if_false]
variable {s0 s1 : RS}
theorem q_many (hB : blk (s.2.2.1 4) 0 B) (hw : wfB B) (hR : bkR B r) (a0 : Int32) : qq s s0 (pX12_many s a0) (pX11_many s0 s1 r a0) := by
  have h16 := hw.1
  have h4 := hw.2.1
  unfold pX12_many pX11_many
  simp only [thn_eq]
  have e3 : (3 : Int64) = (nI 4 - (1 : Int32)).toInt64 := by decide +kernel
  rw [e3]
  rcases isInM a0 (m := 4) (by omega) with ⟨t, ht, rfl, e, _⟩ | ⟨e, h⟩
  · rw [e, ob_s, if_pos rfl]
    have : t = 0 ∨ t = 1 ∨ t = 2 ∨ t = 3 := by omega
    rcases this with rfl | rfl | rfl | rfl
    · have e1 : (uI (uI s 1 (0 : Int32)) 0 (0 : Int32)).2.2.1 4 (nI 0).toNatClampNeg = nI (B 0) := hB.1 0 (by omega)
      rw [if_neg (show ¬ (2 : Int32) ≤ nI 0 by decide), g_inT (by omega) (by omega), e1, if_pos (show nI 0 = 0 from rfl), hR.2.1]
      exact ⟨_, _, rfl, rq_2 _ _ _, rfl⟩
    · have e1 : (uI (uI s 1 (0 : Int32)) 0 (0 : Int32)).2.2.1 4 (nI 1).toNatClampNeg = nI (B 1) := hB.1 1 (by omega)
      rw [if_neg (show ¬ (2 : Int32) ≤ nI 1 by decide), g_inT (by omega) (by omega), e1, if_neg (show ¬ nI 1 = 0 by decide), if_pos (show nI 1 = 1 from rfl), hR.1]
      exact ⟨_, _, rfl, rq_2 _ _ _, rfl⟩
    · rw [if_pos (show (2 : Int32) ≤ nI 2 by decide), if_neg (show ¬ nI 2 = 0 by decide), if_neg (show ¬ nI 2 = 1 by decide), if_pos (show nI 2 = 2 from rfl), r_many2 (s := uI (uI s 1 0) 0 0) hB hw, x_allOfKind hR hw, ob_s, ob_s, bcT (mkN_lt' (m := 16) h16), ob_s, bts_mk h16]
      exact ⟨_, _, rfl, rq_2 _ _ _, rfl⟩
    · rw [if_pos (show (2 : Int32) ≤ nI 3 by decide), if_neg (show ¬ nI 3 = 0 by decide), if_neg (show ¬ nI 3 = 1 by decide), if_neg (show ¬ nI 3 = 2 by decide), if_pos (show nI 3 = 3 from rfl), r_many3 (s := uI (uI s 1 0) 0 0) hB hw, x_countFoes hR hw, ob_s, ob_s]
      exact ⟨_, _, rfl, rq_2 _ _ _, rfl⟩
  · rw [e, ob_s, if_neg (by decide), if_neg (show ¬ a0 = 0 from ne_out h (t := 0) (by omega) (by omega)), if_neg (show ¬ a0 = 1 from ne_out h (t := 1) (by omega) (by omega)), if_neg (show ¬ a0 = 2 from ne_out h (t := 2) (by omega) (by omega)), if_neg (show ¬ a0 = 3 from ne_out h (t := 3) (by omega) (by omega))]
    exact ⟨_, _, rfl, rq_3 _ _ _ _, rfl⟩
theorem q_change (hB : blk (s.2.2.1 4) 0 B) (hw : wfB B) (hR : bkR B r) (a0 a1 : Int32) : qq s s0 (pX12_change s a0 a1) (pX11_change s0 s1 r a0 a1) := by
  have h16 := hw.1
  unfold pX12_change pX11_change
  simp only [thn_eq]
  rcases is_change (s := uI (uI s 1 0) 0 0) hB hw hR a0 with ⟨k, hk, rfl, e1, e2⟩ | ⟨e1, e2⟩
  · have hc : ∀ j, j < 114 → (uI (uI s 1 (0 : Int32)) 0 (0 : Int32)).2.2.1 4 j = nI (B j) := fun j h => by have := hB.1 j h; rwa [Nat.zero_add] at this
    have hk4 := (hw.2.2 k hk).1
    obtain ⟨b4, b5, b6, b7, b8, b9, b10, b11, b12, b13⟩ := hR.2.2.2 k hk
    have i18 : (uI (uI s 1 (0 : Int32)) 0 (0 : Int32)).2.2.1 4 ((18 : Int32) + nI k).toNatClampNeg = nI (B (18 + k)) := by
      rw [show (18 : Int32) = nI 18 from rfl, nI_add, nI_clamp (by omega), hc _ (by omega)]
    have i34 : (uI (uI s 1 (0 : Int32)) 0 (0 : Int32)).2.2.1 4 ((34 : Int32) + nI k).toNatClampNeg = nI (B (34 + k)) := by
      rw [show (34 : Int32) = nI 34 from rfl, nI_add, nI_clamp (by omega), hc _ (by omega)]
    have g18 : ∀ {γ : Type} (e : Option γ), g_in ((18 : Int32) + nI k) 1800 e = e := fun e => by
      rw [show (18 : Int32) = nI 18 from rfl, nI_add]; exact g_inT (by omega) (by omega)
    have g34 : ∀ {γ : Type} (e : Option γ), g_in ((34 : Int32) + nI k) 1800 e = e := fun e => by
      rw [show (34 : Int32) = nI 34 from rfl, nI_add]; exact g_inT (by omega) (by omega)
    have gk : ∀ {γ : Type} (e : Option γ), g_in (nI k) 16 e = e := fun e => g_inT (by omega) (by omega)
    have hn : nmB B k = if B (2 + k) = 2 then nI (B (34 + k)) else if B (2 + k) = 0 ∨ B (2 + k) = 3 then nI (B (18 + k)) else m1I := rfl
    rw [e1, e2, ob_s, ob_s, if_pos rfl, if_pos rfl, r_kind (s := uI (uI s 1 0) 0 0) hB (by omega), ob_s, i18, i34]
    simp only [g18, g34, gk]
    rw [nI_clamp (by omega), b4, b5, b7, b8, x_isPut hR hw hk, ob_s]
    by_cases c0 : a1 = 0
    · rw [if_pos c0, if_pos c0]
      exact ⟨_, _, rfl, rq_2 _ _ _, rfl⟩
    · rw [if_neg c0, if_neg c0]
      by_cases c1 : a1 = 1
      · rw [if_pos c1, if_pos c1, show (2 : Int32) = nI 2 from rfl, show (3 : Int32) = nI 3 from rfl, ifE (by omega) (by omega)]
        by_cases k2 : B (2 + k) = 2
        · rw [if_pos k2, hn, if_pos k2]
          exact ⟨_, _, rfl, rq_2 _ _ _, rfl⟩
        · rw [if_neg k2, hn, if_neg k2]
          by_cases k0 : B (2 + k) = 0
          · rw [if_pos (show nI (B (2 + k)) = 0 by rw [k0]; rfl), if_pos (Or.inl k0)]
            exact ⟨_, _, rfl, rq_2 _ _ _, rfl⟩
          · rw [if_neg (show ¬ nI (B (2 + k)) = 0 from fun q => k0 ((nI_eq (b := 0) (by omega) (by omega)).mp q)), ifE (by omega) (by omega)]
            by_cases k3 : B (2 + k) = 3
            · rw [if_pos k3, if_pos (Or.inr k3)]
              exact ⟨_, _, rfl, rq_2 _ _ _, rfl⟩
            · rw [if_neg k3, if_neg (by omega)]
              exact ⟨_, _, rfl, rq_2 _ _ _, rfl⟩
      · rw [if_neg c1, if_neg c1]
        by_cases c2 : a1 = 2
        · rw [if_pos c2, if_pos c2]
          by_cases k0 : B (2 + k) = 0
          · have k0' : (B (2 + k) == 0) = true := by simpa using k0
            rw [if_pos (show nI (B (2 + k)) = 0 by rw [k0]; rfl), k0', if_pos rfl, b6 k0]
            exact ⟨_, _, rfl, rq_2 _ _ _, rfl⟩
          · have k0' : (B (2 + k) == 0) = false := by simpa using k0
            rw [if_neg (show ¬ nI (B (2 + k)) = 0 from fun q => k0 ((nI_eq (b := 0) (by omega) (by omega)).mp q)), k0', if_neg (by decide)]
            exact ⟨_, _, rfl, rq_3 _ _ _ _, rfl⟩
        · rw [if_neg c2, if_neg c2]
          by_cases c3 : a1 = 3
          · rw [if_pos c3, if_pos c3, r_thingOf (s := uI (uI s 1 0) 0 0) hB hw hk, ob_s]
            exact ⟨_, _, rfl, rq_2 _ _ _, rfl⟩
          · rw [if_neg c3, if_neg c3]
            by_cases c4 : a1 = 4
            · rw [if_pos c4, if_pos c4, r_levelOf (s := uI (uI s 1 0) 0 0) hB hw 20 (by omega) hk, ob_s, lvB, lvF_ok 20 (k + 1) k (by omega) (by omega)]
              exact ⟨_, _, rfl, rq_2 _ _ _, rfl⟩
            · rw [if_neg c4, if_neg c4]
              exact ⟨_, _, rfl, rq_3 _ _ _ _, rfl⟩
  · rw [e1, e2]; exact ⟨_, _, rfl, rq_3 _ _ _ _, rfl⟩
theorem q_hangs (hB : blk (s.2.2.1 4) 0 B) (hw : wfB B) (hR : bkR B r) (a0 a1 : Int32) : qq s s0 (pX12_hangs s a0 a1) (pX11_hangs s0 s1 r a0 a1) := by
  have h16 := hw.1
  unfold pX12_hangs pX11_hangs
  simp only [thn_eq]
  rcases is_change (s := uI (uI s 1 0) 0 0) hB hw hR a0 with ⟨k, hk, rfl, e1, e2⟩ | ⟨e1, e2⟩
  · have hc : ∀ j, j < 114 → (uI (uI s 1 (0 : Int32)) 0 (0 : Int32)).2.2.1 4 j = nI (B j) := fun j h => by have := hB.1 j h; rwa [Nat.zero_add] at this
    obtain ⟨b4, b5, b6, b7, b8, b9, b10, b11, b12, b13⟩ := hR.2.2.2 k hk
    have i82 : (uI (uI s 1 (0 : Int32)) 0 (0 : Int32)).2.2.1 4 ((82 : Int32) + nI k).toNatClampNeg = nI (B (82 + k)) := by
      rw [show (82 : Int32) = nI 82 from rfl, nI_add, nI_clamp (by omega), hc _ (by omega)]
    have g82 : ∀ {γ : Type} (e : Option γ), g_in ((82 : Int32) + nI k) 1800 e = e := fun e => by
      rw [show (82 : Int32) = nI 82 from rfl, nI_add]; exact g_inT (by omega) (by omega)
    have gk : ∀ {γ : Type} (e : Option γ), g_in (nI k) 16 e = e := fun e => g_inT (by omega) (by omega)
    have e3 : (2 : Int64) = (nI 3 - (1 : Int32)).toInt64 := by decide +kernel
    rw [e1, e2, ob_s, ob_s, if_pos rfl, if_pos rfl, e3, i82, r_hangsOn (s := uI (uI s 1 0) 0 0) hB (by omega), r_hangers (s := uI (uI s 1 0) 0 0) hB hw (by omega), ob_s, ob_s]
    simp only [g82, gk]
    rw [nI_clamp (by omega), b9, b10, b11]
    rcases isInM a1 (m := 3) (by omega) with ⟨t, ht, rfl, e, _⟩ | ⟨e, h⟩
    · rw [e, ob_s, if_pos rfl]
      have : t = 0 ∨ t = 1 ∨ t = 2 := by omega
      rcases this with rfl | rfl | rfl
      · rw [if_pos (show nI 0 = 0 from rfl), if_pos (show nI 0 = 0 from rfl)]
        exact ⟨_, _, rfl, rq_2 _ _ _, rfl⟩
      · rw [if_neg (show ¬ nI 1 = 0 by decide), if_neg (show ¬ nI 1 = 0 by decide), if_pos (show nI 1 = 1 from rfl), if_pos (show nI 1 = 1 from rfl)]
        exact ⟨_, _, rfl, rq_2 _ _ _, rfl⟩
      · rw [if_neg (show ¬ nI 2 = 0 by decide), if_neg (show ¬ nI 2 = 0 by decide), if_neg (show ¬ nI 2 = 1 by decide), if_neg (show ¬ nI 2 = 1 by decide), if_pos (show nI 2 = 2 from rfl)]
        exact ⟨_, _, rfl, rq_2 _ _ _, rfl⟩
    · rw [e, ob_s, if_neg (by decide), if_neg (show ¬ a1 = 0 from ne_out h (t := 0) (by omega) (by omega)), if_neg (show ¬ a1 = 1 from ne_out h (t := 1) (by omega) (by omega)), if_neg (show ¬ a1 = 2 from ne_out h (t := 2) (by omega) (by omega))]
      exact ⟨_, _, rfl, rq_3 _ _ _ _, rfl⟩
  · rw [e1, e2]; exact ⟨_, _, rfl, rq_3 _ _ _ _, rfl⟩
end Q
def hvN (g : Nat → Nat) : Nat → Nat
  | 0 => 0
  | n + 1 => if g n ≤ g (hvN g n) then hvN g n else n
theorem hvN_lt (g : Nat → Nat) : ∀ n, 0 < n → hvN g n < n
  | 0, h => absurd h (Nat.not_lt_zero _)
  | n + 1, _ => by
    unfold hvN
    cases n with
    | zero =>
      show (if g 0 ≤ g 0 then 0 else 0) < 0 + 1
      split <;> decide
    | succ n =>
      have := hvN_lt g (n + 1) (by omega)
      split <;> omega
theorem g_in0 {γ : Type} {n : Nat} (e : Option γ) (h : 0 < n) (hn : n < 2 ^ 31) : g_in (0 : Int32) n e = e := g_inT (a := 0) h hn
section Q
variable {s r : RS} {B : Nat → Nat} {s0 s1 : RS}
theorem q_heaviest (hB : blk (s.2.2.1 4) 0 B) (hw : wfB B) (hR : bkR B r) : qq s s0 (pX12_heaviest s) (pX11_heaviest s0 s1 r) := by
  have h16 := hw.1
  unfold pX12_heaviest pX11_heaviest
  simp only [thn_eq]
  have hb0 : (uI (uI s 1 (0 : Int32)) 0 (0 : Int32)).2.2.1 4 (0 : Int32).toNatClampNeg = nI (B 0) := hB.1 0 (by omega)
  have ref : a_loop (fun (q : Int32 × Int32) => X12_heaviest_b14 q.1 q.2 (uI (uI s 1 (0 : Int32)) 0 (0 : Int32))) FU ((-1 : Int32), (0 : Int32)) = some (if B 0 = 0 then m1I else nI (hvN (fun k => bts (hgr B k)) (B 0))) := by
    refine lp_f (fun k => (if k = 0 then m1I else nI (hvN (fun k => bts (hgr B k)) k), nI k)) (B 0) (by omega) (fun k hk => ?_) ?_
    · dsimp only [X12_heaviest_b14, X12_heaviest_j47, X12_heaviest_j49]
      rw [hb0]
      by_cases e : k = 0
      · subst e
        have h1 : hvN (fun k => bts (hgr B k)) 1 = 0 := by unfold hvN; split <;> rfl
        rw [if_pos (show (0 : Nat) = 0 from rfl), if_neg (show ¬ (0 + 1 = 0) by decide), h1, g_in0 _ (by omega) (by omega), if_neg (nI_ge hk (by omega)), if_pos (show m1I < (0 : Int32) by decide)]
        rfl
      · have hl := hvN_lt (fun k => bts (hgr B k)) k (by omega)
        have hs : hvN (fun k => bts (hgr B k)) (k + 1) = if bts (hgr B k) ≤ bts (hgr B (hvN (fun k => bts (hgr B k)) k)) then hvN (fun k => bts (hgr B k)) k else k := rfl
        rw [if_neg e, if_neg (show ¬ (k + 1 = 0) by omega), hs]
        generalize hvN (fun k => bts (hgr B k)) k = m at *
        have b1 := bts_le (hgr B k)
        have b2 := bts_le (hgr B m)
        rw [g_in0 _ (by omega) (by omega), if_neg (nI_ge hk (by omega)), if_neg (show ¬ nI m < 0 from nI_pos (by omega)), r_hangers (s := uI (uI s 1 0) 0 0) hB hw (by omega), ob_s, bitsT (hgr_lt hw _), ob_s, r_hangers (s := uI (uI s 1 0) 0 0) hB hw (by omega), ob_s, bitsT (hgr_lt hw _), ob_s, ifLe (by omega) (by omega)]
        by_cases q : bts (hgr B k) ≤ bts (hgr B m)
        · rw [if_pos q, if_pos q]
          simp (disch := omega) only [thn_eq, ob_s, se_l, se_r, li, lL, m1_i, nI_clamp, g_inT, leT, leF, ltT, ltF, eqT, eqF, nI_add, pk_mul, sbI, s1I, orI, dfI, Nat.reduceAdd, Nat.reduceMul, Nat.zero_add, ↓reduceIte, if_true, if_false]
        · rw [if_neg q, if_neg q]
          simp (disch := omega) only [thn_eq, ob_s, se_l, se_r, li, lL, m1_i, nI_clamp, g_inT, leT, leF, ltT, ltF, eqT, eqF, nI_add, pk_mul, sbI, s1I, orI, dfI, Nat.reduceAdd, Nat.reduceMul, Nat.zero_add, ↓reduceIte, if_true, if_false]
    · dsimp only [X12_heaviest_b14]
      rw [hb0]
      simp (disch := omega) only [thn_eq, ob_s, se_l, se_r, li, lL, m1_i, nI_clamp, g_inT, leT, leF, ltT, ltF, eqT, eqF, nI_add, pk_mul, sbI, s1I, orI, dfI, Nat.reduceAdd, Nat.reduceMul, Nat.zero_add, ↓reduceIte, if_true, if_false]
  refine Eq.mpr (congrArg (fun z => qq s s0 z _) (congrArg (fun z => Option.bind z _) ref)) ?_
  rw [ob_s, hR.2.1]
  by_cases e : B 0 = 0
  · rw [if_pos e, if_neg (show ¬ (0 : Int32) ≤ m1I by decide), e, if_pos (show nI 0 = 0 from rfl)]
    exact ⟨_, _, rfl, rq_3 _ _ _ _, rfl⟩
  · have hl := hvN_lt (fun k => bts (hgr B k)) (B 0) (by omega)
    have cls : pX0_heaviestChange r = some (nI (hvN (fun k => bts (hgr B k)) (B 0))) := by
      unfold pX0_heaviestChange
      have h1 : hvN (fun k => bts (hgr B k)) 1 = 0 := by unfold hvN; split <;> rfl
      have lp := lp_fi (body := fun (q : Int32 × Int32) => X0_heaviestChange_b4 q.1 q.2 r) (fun k => (nI (hvN (fun k => bts (hgr B k)) k), nI k)) (x := nI (hvN (fun k => bts (hgr B k)) (B 0))) 1 (B 0) (by omega) (fun k hk1 hk => ?_) (by omega) ?_
      · rw [h1] at lp
        exact bd lp rfl
      · dsimp only [X0_heaviestChange_b4, X0_heaviestChange_j35]
        have hl := hvN_lt (fun k => bts (hgr B k)) k (by omega)
        have hs : hvN (fun k => bts (hgr B k)) (k + 1) = if bts (hgr B k) ≤ bts (hgr B (hvN (fun k => bts (hgr B k)) k)) then hvN (fun k => bts (hgr B k)) k else k := rfl
        rw [hs]
        generalize hvN (fun k => bts (hgr B k)) k = m at *
        have b1 := bts_le (hgr B k)
        have b2 := bts_le (hgr B m)
        rw [hR.2.1, if_neg (nI_ge hk (by omega)), nI_clamp (by omega), nI_clamp (by omega), (hR.2.2.2 k hk).2.2.2.2.2.2.2.1, (hR.2.2.2 m (by omega)).2.2.2.2.2.2.2.1, bcT (hgr_lt hw _), ob_s, bcT (hgr_lt hw _), ob_s, ifLe (by omega) (by omega)]
        by_cases q : bts (hgr B k) ≤ bts (hgr B m)
        · rw [if_pos q, if_pos q]
          simp (disch := omega) only [thn_eq, ob_s, se_l, se_r, li, lL, m1_i, nI_clamp, g_inT, leT, leF, ltT, ltF, eqT, eqF, nI_add, pk_mul, sbI, s1I, orI, dfI, Nat.reduceAdd, Nat.reduceMul, Nat.zero_add, ↓reduceIte, if_true, if_false]
        · rw [if_neg q, if_neg q]
          simp (disch := omega) only [thn_eq, ob_s, se_l, se_r, li, lL, m1_i, nI_clamp, g_inT, leT, leF, ltT, ltF, eqT, eqF, nI_add, pk_mul, sbI, s1I, orI, dfI, Nat.reduceAdd, Nat.reduceMul, Nat.zero_add, ↓reduceIte, if_true, if_false]
      · dsimp only [X0_heaviestChange_b4]
        rw [hR.2.1]
        simp (disch := omega) only [thn_eq, ob_s, se_l, se_r, li, lL, m1_i, nI_clamp, g_inT, leT, leF, ltT, ltF, eqT, eqF, nI_add, pk_mul, sbI, s1I, orI, dfI, Nat.reduceAdd, Nat.reduceMul, Nat.zero_add, ↓reduceIte, if_true, if_false]
    rw [if_neg e, if_pos (show (0 : Int32) ≤ nI (hvN (fun k => bts (hgr B k)) (B 0)) from nI_le (a := 0) (Nat.zero_le _) (by omega)), if_neg (show ¬ nI (B 0) = 0 from fun q => e ((nI_eq (b := 0) (by omega) (by omega)).mp q)), cls, ob_s]
    exact ⟨_, _, rfl, rq_2 _ _ _, rfl⟩
theorem q_alone (hB : blk (s.2.2.1 4) 0 B) (hw : wfB B) (hR : bkR B r) : qq s s0 (pX12_alone s) (pX11_alone s0 s1 r) := by
  have h16 := hw.1
  have hb0 : (uI (uI s 1 (0 : Int32)) 0 (0 : Int32)).2.2.1 4 (0 : Int32).toNatClampNeg = nI (B 0) := hB.1 0 (by omega)
  unfold pX12_alone pX11_alone
  simp only [thn_eq]
  have ref : a_loop (fun (q : Int32 × Int32) => X12_alone_b14 q.1 q.2 (uI (uI s 1 (0 : Int32)) 0 (0 : Int32))) FU ((0 : Int32), (0 : Int32)) = some (nI (mkN (fun k => B (2 + k) == 0 && hgr B k == 0) (B 0))) := by
    refine lp_acc (fun k => mkN (fun k => B (2 + k) == 0 && hgr B k == 0) k) (B 0) (by omega) (fun k hk => ?_) ?_
    · dsimp only [X12_alone_b14, X12_alone_j48, X12_alone_j49]
      have v := hB.2 (2 + k)
      have g := hgr_lt hw k
      rw [hb0, r_kind (s := uI (uI s 1 0) 0 0) hB (by omega), ob_s, r_hangers (s := uI (uI s 1 0) 0 0) hB hw (by omega), ob_s]
      simp (disch := omega) only [thn_eq, ob_s, se_l, se_r, li, lL, m1_i, nI_clamp, g_inT, leT, leF, ltT, ltF, eqT, eqF, nI_add, pk_mul, sbI, s1I, orI, dfI, Nat.reduceAdd, Nat.reduceMul, Nat.zero_add, ↓reduceIte, if_true, if_false, eqI, mkN]
      by_cases e1 : B (2 + k) = 0 <;> by_cases e2 : hgr B k = 0 <;> simp [e1, e2]
    · dsimp only [X12_alone_b14]
      rw [hb0]
      simp (disch := omega) only [thn_eq, ob_s, se_l, se_r, li, lL, m1_i, nI_clamp, g_inT, leT, leF, ltT, ltF, eqT, eqF, nI_add, pk_mul, sbI, s1I, orI, dfI, Nat.reduceAdd, Nat.reduceMul, Nat.zero_add, ↓reduceIte, if_true, if_false]
  have cls : pX0_lonelyPuts r = some (nI (mkN (fun k => B (2 + k) == 0 && hgr B k == 0) (B 0))) := by
    unfold pX0_lonelyPuts
    refine bd (lp_acc (fun k => mkN (fun k => B (2 + k) == 0 && hgr B k == 0) k) (B 0) (by omega) (fun k hk => ?_) ?_) rfl
    · dsimp only [X0_lonelyPuts_b4, X0_lonelyPuts_j36]
      have v := (hw.2.2 k hk).1
      have g := hgr_lt hw k
      rw [hR.2.1, nI_clamp (by omega), (hR.2.2.2 k hk).1, (hR.2.2.2 k hk).2.2.2.2.2.2.2.1]
      simp (disch := omega) only [thn_eq, ob_s, se_l, se_r, li, lL, m1_i, nI_clamp, g_inT, leT, leF, ltT, ltF, eqT, eqF, nI_add, pk_mul, sbI, s1I, orI, dfI, Nat.reduceAdd, Nat.reduceMul, Nat.zero_add, ↓reduceIte, if_true, if_false, eqI, mkN]
      by_cases e1 : B (2 + k) = 0 <;> by_cases e2 : hgr B k = 0 <;> simp [e1, e2]
    · dsimp only [X0_lonelyPuts_b4]
      rw [hR.2.1]
      simp (disch := omega) only [thn_eq, ob_s, se_l, se_r, li, lL, m1_i, nI_clamp, g_inT, leT, leF, ltT, ltF, eqT, eqF, nI_add, pk_mul, sbI, s1I, orI, dfI, Nat.reduceAdd, Nat.reduceMul, Nat.zero_add, ↓reduceIte, if_true, if_false]
  rw [cls, ob_s]
  refine ⟨_, _, bd ref rfl, rq_2 _ _ _, rfl⟩
end Q
