/-! LIKE -/
theorem anN_or {p q : Nat → Bool} : ∀ n, anN (fun k => p k || q k) n = (anN p n || anN q n)
  | 0 => rfl
  | n + 1 => by
    show (anN _ n || (p n || q n)) = ((anN p n || p n) || (anN q n || q n))
    rw [anN_or n]
    cases anN p n <;> cases p n <;> cases anN q n <;> cases q n <;> rfl
section Q
variable {s r : RS} {B : Nat → Nat} {s0 s1 : RS}
theorem x_isLike {q q' : RS} {t u : Nat} (hw : wfB B) (hb : ∀ j, B j < 65536) (hq : lsR B t (B 0) q) (hq' : lsR B u (B 0) q') : pX2_isLike q q' = some (decide ((lsG B t (B 0)).1 = (lsG B u (B 0)).1) && !anN (fun k => dfL B t u k || dfK B t u k) (lsG B t (B 0)).1) := by
  have h16 := hw.1
  obtain ⟨l1, l2⟩ := lsG_ok B t (B 0)
  obtain ⟨l3, l4⟩ := lsG_ok B u (B 0)
  have hm1 : min (lsG B t (B 0)).1 (lsG B u (B 0)).1 ≤ (lsG B t (B 0)).1 := Nat.min_le_left _ _
  unfold pX2_isLike
  rw [x_firstDifference hw hb hq hq', ob_s, anN_or]
  by_cases c : fsN (dfL B t u) (min (lsG B t (B 0)).1 (lsG B u (B 0)).1) < min (lsG B t (B 0)).1 (lsG B u (B 0)).1
  · have : anN (dfL B t u) (lsG B t (B 0)).1 = true := anN_iff.mpr ⟨_, by omega, fsN_yes _ _ c⟩
    rw [if_pos c, show (-1 : Int32) = m1I from rfl, if_neg (by rw [m1_ne (by omega)]; exact not_false), this]
    simp
  · rw [if_neg c]
    by_cases c2 : (lsG B t (B 0)).1 = (lsG B u (B 0)).1
    · have hno : ∀ j, j < (lsG B t (B 0)).1 → dfL B t u j = false := fun j hj => fsN_no (dfL B t u) (min (lsG B t (B 0)).1 (lsG B u (B 0)).1) j (by omega)
      have e0 : anN (dfL B t u) (lsG B t (B 0)).1 = false := anN_f.mpr hno
      rw [if_pos c2, if_pos (show m1I = -1 from rfl), e0, decide_eq_true c2, Bool.true_and, Bool.false_or]
      refine bd (lp_any (dfK B t u) (lsG B t (B 0)).1 (by omega) (fun i hi => ?_) ?_) ?_
      · dsimp only [X2_isLike_b13]
        obtain ⟨a1, a2, a3⟩ := hq.2 i (by omega)
        obtain ⟨c1, c2, c3⟩ := hq'.2 i (by omega)
        have e1 : (lsG B t (B 0)).2 i = (lsG B u (B 0)).2 i := by
          have := hno i hi
          unfold dfL at this
          simp at this
          exact this.1
        have t1 := tol_lt hb t ((lsG B t (B 0)).2 i) 3
        have t2 := tol_lt hb u ((lsG B t (B 0)).2 i) 3
        rw [hq.1, nI_clamp (by omega), a3, c3, ← e1]
        simp (disch := omega) only [thn_eq, ob_s, se_l, se_r, li, lL, m1_i, nI_clamp, g_inT, leT, leF, ltT, ltF, eqT, eqF, nI_add, pk_mul, sbI, s1I, orI, dfI, Nat.reduceAdd, Nat.reduceMul, Nat.zero_add, ↓reduceIte, if_true, if_false, eqI]
        unfold dfK
        by_cases e2 : tol B t ((lsG B t (B 0)).2 i) 3 = tol B u ((lsG B t (B 0)).2 i) 3 <;> simp [e2]
      · dsimp only [X2_isLike_b13]
        rw [hq.1]
        simp (disch := omega) only [thn_eq, ob_s, se_l, se_r, li, lL, m1_i, nI_clamp, g_inT, leT, leF, ltT, ltF, eqT, eqF, nI_add, pk_mul, sbI, s1I, orI, dfI, Nat.reduceAdd, Nat.reduceMul, Nat.zero_add, ↓reduceIte, if_true, if_false]
      · cases anN (dfK B t u) (lsG B t (B 0)).1 <;> rfl
    · rw [if_neg c2, show (-1 : Int32) = m1I from rfl, if_neg (by rw [m1_ne (by omega)]; exact not_false), decide_eq_false c2]
      rfl
theorem q_like {s3 s4 : RS} (hB : blk (s.2.2.1 4) 0 B) (hw : wfB B) (hR : bkR B r) (a0 a1 : Int32) : qM s s0 (pX12_like s a0 a1) (pX11_like s0 s1 r s3 s4 a0 a1) := by
  have h16 := hw.1
  unfold pX12_like pX11_like
  simp only [thn_eq]
  rcases why_two (s := uI s 1 0) (s0 := s0) (s1 := s1) hB hw hR a0 a1 with ⟨t, u, ht, hu, rfl, rfl, e1, e2⟩ | ⟨w, h9, e1, e2⟩
  · obtain ⟨l1, l2⟩ := lsG_ok B t (B 0)
    obtain ⟨l3, l4⟩ := lsG_ok B u (B 0)
    obtain ⟨s', h1, h2, h3⟩ := r_listOf_6 (s := uI (uI s 1 0) 0 0) hB hw ht
    have hB5 : blk ((uI s' 25 (nI (lsG B t (B 0)).1)).2.2.1 4) 0 B := by
      show blk (s'.2.2.1 4) 0 B
      rw [h2.2.2.2 4 (by decide)]; exact hB
    obtain ⟨s'', k1, k2, k3⟩ := r_listOf_7 (s := uI s' 25 (nI (lsG B t (B 0)).1)) hB5 hw hu
    have hB7 : blk ((uI s'' 26 (nI (lsG B u (B 0)).1)).2.2.1 4) 0 B := by
      show blk (s''.2.2.1 4) 0 B
      rw [k2.2.2.2 4 (by decide)]; exact hB5
    obtain ⟨q', h4, h5⟩ := x_fill hR hw hB.2 ht s3
    obtain ⟨q'', h6, h7⟩ := x_fill hR hw hB.2 hu s4
    have n25 : (uI s'' 26 (nI (lsG B u (B 0)).1)).1 25 = nI (lsG B t (B 0)).1 := by
      show s''.1 25 = _
      rw [k2.1]; rfl
    have n26 : (uI s'' 26 (nI (lsG B u (B 0)).1)).1 26 = nI (lsG B u (B 0)).1 := rfl
    have r6 : ∀ i, i < (lsG B t (B 0)).1 → (uI s'' 26 (nI (lsG B u (B 0)).1)).2.2.1 6 i = nI ((lsG B t (B 0)).2 i) := fun i hi => by
      show s''.2.2.1 6 i = _
      rw [k2.2.2.2 6 (by decide)]; exact h3 i hi
    have r7 : ∀ i, i < (lsG B u (B 0)).1 → (uI s'' 26 (nI (lsG B u (B 0)).1)).2.2.1 7 i = nI ((lsG B u (B 0)).2 i) := k3
    have st7 : (uI s'' 26 (nI (lsG B u (B 0)).1)).1 0 = 0 := by
      show s''.1 0 = 0
      rw [k2.1]
      show s'.1 0 = 0
      rw [h2.1]; rfl
    have rs7 : rsame s (uI s'' 26 (nI (lsG B u (B 0)).1)) := rs_uI (rs_sx (rs_uI (rs_sx (rq_2 _ _ _) h2 (by decide)) _ (by decide)) k2 (by decide)) _ (by decide)
    rw [e1, e2, ob_s, ob_s, if_pos (show (uI (uI s 1 (0 : Int32)) 0 (0 : Int32)).1 0 ≤ 0 from (by decide : (0 : Int32) ≤ 0)), if_pos rfl, h1, h4, ob_s, ob_s]
    try dsimp only
    rw [k1, h6, ob_s, ob_s]
    try dsimp only
    rw [x_isLike hw hB.2 h5 h7, ob_s, x_quarrelAlike hR hw ht hu, ob_s]
    generalize uI s'' 26 (nI (lsG B u (B 0)).1) = S at *
    have hb0 : S.2.2.1 4 (0 : Int32).toNatClampNeg = nI (B 0) := hB7.1 0 (by omega)
    rw [n25, n26, ifE (by omega) (by omega)]
    by_cases c : (lsG B t (B 0)).1 = (lsG B u (B 0)).1
    · have lp : a_loop (fun (q : Int32) => X12_like_b65 (nI t) (nI u) q S) FU (0 : Int32) = some (if anN (fun k => dfL B t u k || dfK B t u k) (lsG B t (B 0)).1 then .inl () else .inr ()) := by
        refine lp_any (fun k => dfL B t u k || dfK B t u k) (lsG B t (B 0)).1 (by omega) (fun i hi => ?_) ?_
        · dsimp only [X12_like_b65]
          have g1 := (l2 i (by omega)).1
          have g2 := (l4 i (by omega)).1
          have t1 := tol_lt hB.2 t ((lsG B t (B 0)).2 i) 2
          have t2 := tol_lt hB.2 u ((lsG B t (B 0)).2 i) 2
          have t3 := tol_lt hB.2 t ((lsG B t (B 0)).2 i) 3
          have t4 := tol_lt hB.2 u ((lsG B t (B 0)).2 i) 3
          rw [n25, nI_clamp (by omega), r6 i (by omega), r7 i (by omega), show (2 : Int32) = nI 2 from rfl, show (3 : Int32) = nI 3 from rfl, r_toldBy hB7 hw ht g1 (Or.inl rfl), ob_s, r_toldBy hB7 hw hu g1 (Or.inl rfl), ob_s, r_toldBy hB7 hw ht g1 (Or.inr rfl), ob_s, r_toldBy hB7 hw hu g1 (Or.inr rfl), ob_s]
          simp (disch := omega) only [thn_eq, ob_s, se_l, se_r, li, lL, m1_i, nI_clamp, g_inT, leT, leF, ltT, ltF, eqT, eqF, nI_add, pk_mul, sbI, s1I, orI, dfI, Nat.reduceAdd, Nat.reduceMul, Nat.zero_add, ↓reduceIte, if_true, if_false, eqI]
          unfold dfL dfK
          by_cases e1 : (lsG B t (B 0)).2 i = (lsG B u (B 0)).2 i
          · rw [← e1]
            by_cases e2 : tol B t ((lsG B t (B 0)).2 i) 2 = tol B u ((lsG B t (B 0)).2 i) 2 <;> by_cases e3 : tol B t ((lsG B t (B 0)).2 i) 3 = tol B u ((lsG B t (B 0)).2 i) 3 <;> simp [e2, e3]
          · simp [e1]
        · dsimp only [X12_like_b65]
          rw [n25]
          simp (disch := omega) only [thn_eq, ob_s, se_l, se_r, li, lL, m1_i, nI_clamp, g_inT, leT, leF, ltT, ltF, eqT, eqF, nI_add, pk_mul, sbI, s1I, orI, dfI, Nat.reduceAdd, Nat.reduceMul, Nat.zero_add, ↓reduceIte, if_true, if_false]
      have lp2 : a_loop (fun (q : Int32) => X12_like_b152 (nI t) (nI u) q S) FU (0 : Int32) = some (if anN (fun x => !(qrs B t x == qrs B u x)) (B 0) then .inl () else .inr ()) := by
        refine lp_any (fun x => !(qrs B t x == qrs B u x)) (B 0) (by omega) (fun i hi => ?_) ?_
        · dsimp only [X12_like_b152]
          have q1 := qrs_lt hw t i
          have q2 := qrs_lt hw u i
          rw [hb0, r_quarrelers hB7 hw ht hi, ob_s, r_quarrelers hB7 hw hu hi, ob_s]
          simp (disch := omega) only [thn_eq, ob_s, se_l, se_r, li, lL, m1_i, nI_clamp, g_inT, leT, leF, ltT, ltF, eqT, eqF, nI_add, pk_mul, sbI, s1I, orI, dfI, Nat.reduceAdd, Nat.reduceMul, Nat.zero_add, ↓reduceIte, if_true, if_false, eqI]
          by_cases e : qrs B t i = qrs B u i <;> simp [e]
        · dsimp only [X12_like_b152]
          rw [hb0]
          simp (disch := omega) only [thn_eq, ob_s, se_l, se_r, li, lL, m1_i, nI_clamp, g_inT, leT, leF, ltT, ltF, eqT, eqF, nI_add, pk_mul, sbI, s1I, orI, dfI, Nat.reduceAdd, Nat.reduceMul, Nat.zero_add, ↓reduceIte, if_true, if_false]
      rw [if_pos c, lp, lp2, ob_s, ob_s, decide_eq_true c, Bool.true_and]
      cases anN (fun k => dfL B t u k || dfK B t u k) (lsG B t (B 0)).1 with
      | true =>
        refine ⟨_, _, q', q'', rfl, rs7, ?_⟩
        rw [st7]; rfl
      | false =>
        cases anN (fun x => !(qrs B t x == qrs B u x)) (B 0) with
        | true =>
          refine ⟨_, _, q', q'', rfl, rs7, ?_⟩
          rw [st7]; rfl
        | false =>
          refine ⟨_, _, q', q'', rfl, rs7, ?_⟩
          rw [st7]; rfl
    · rw [if_neg c, decide_eq_false c]
      refine ⟨_, _, q', q'', rfl, rs7, ?_⟩
      rw [st7]; rfl
  · rw [e1, e2, ob_s, ob_s, if_neg (show ¬ (uI (uI s 1 (0 : Int32)) 0 w).1 0 ≤ 0 from (w_le h9).1), if_neg (w_le h9).2]
    exact ⟨_, _, _, _, rfl, rq_2 _ _ _, rfl⟩
end Q
