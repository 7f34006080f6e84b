/-! what is told of a THING, in the class -/
theorem smN_s (f : Nat → Nat) (n : Nat) : smN f (n + 1) = smN f n + f n := rfl
theorem anN_s (p : Nat → Bool) (n : Nat) : anN p (n + 1) = (anN p n || p n) := rfl
def isH (B : Nat → Nat) (al k : Nat) : Bool := al.testBit k && (hgr B k &&& al) == 0
def agF (B : Nat → Nat) (al p : Nat) : Nat → Nat
  | 0 => al ||| 2 ^ p
  | k + 1 => if isH B al k then agF B al p k &&& B (98 + k) else agF B al p k
theorem isH_hd {B : Nat → Nat} {al k : Nat} (hal : ∀ i, al.testBit i = true → i < B 0) (hk : k < B 0) : isH B al k = (hdT B al).testBit k := by
  unfold isH hdT
  rw [mkN_tb, decide_eq_true hk, Bool.true_and]
  cases al.testBit k with
  | false => rfl
  | true =>
    rw [Bool.true_and, Bool.true_and]
    cases e : alN (fun i => !(al.testBit i && (B (98 + i)).testBit k)) (B 0) with
    | true =>
      rw [alN_iff] at e
      rw [beq_iff_eq]
      apply Nat.eq_of_testBit_eq
      intro i
      rw [Nat.testBit_and, hgr, mkN_tb, Nat.zero_testBit]
      by_cases hi : i < B 0
      · have := e i hi
        rw [decide_eq_true hi, Bool.true_and]
        simp at this
        cases h1 : al.testBit i <;> cases h2 : (B (98 + i)).testBit k <;> simp_all
      · rw [decide_eq_false hi]; rfl
    | false =>
      rw [beq_eq_false_iff_ne]
      intro q
      have : alN (fun i => !(al.testBit i && (B (98 + i)).testBit k)) (B 0) = true := by
        rw [alN_iff]
        intro i hi
        have h1 : (hgr B k &&& al).testBit i = false := by rw [q, Nat.zero_testBit]
        rw [Nat.testBit_and, hgr, mkN_tb, decide_eq_true hi, Bool.true_and] at h1
        cases h2 : al.testBit i <;> cases h3 : (B (98 + i)).testBit k <;> simp_all
      rw [e] at this; cases this
theorem bts_n {t : Nat} : ∀ {n : Nat}, t < 2 ^ n → n ≤ 16 → bts t = smN (fun k => (t.testBit k).toNat) n := by
  intro n h1 h2
  obtain ⟨d, hd⟩ := Nat.exists_eq_add_of_le h2
  have : ∀ d, smN (fun k => (t.testBit k).toNat) (n + d) = smN (fun k => (t.testBit k).toNat) n := by
    intro d
    induction d with
    | zero => rfl
    | succ d ih =>
      rw [show n + (d + 1) = (n + d) + 1 from rfl, smN_s, ih, tbF h1 (by omega)]; rfl
  unfold bts
  rw [hd]; exact this d
theorem smN_hd {B : Nat → Nat} (hw : wfB B) {al : Nat} (hal : ∀ i, al.testBit i = true → i < B 0) : smN (fun k => (isH B al k).toNat) (B 0) = bts (hdT B al) := by
  unfold hdT
  rw [bts_n (n := B 0) (mkN_lt _ _) hw.1]
  exact smN_cg (fun k hk => congrArg Bool.toNat (isH_hd hal hk))
theorem agF_tb (B : Nat → Nat) (al p i : Nat) : ∀ n, (agF B al p n).testBit i = ((al.testBit i || decide (p = i)) && !anN (fun k => isH B al k && !(B (98 + k)).testBit i) n)
  | 0 => by
    show (al ||| 2 ^ p).testBit i = _
    rw [Nat.testBit_or, p2_tb]
    simp [anN]
  | n + 1 => by
    rw [anN_s]
    show (if isH B al n then agF B al p n &&& B (98 + n) else agF B al p n).testBit i = _
    cases isH B al n with
    | false =>
      rw [if_neg (by decide), agF_tb B al p i n, Bool.false_and, Bool.or_false]
    | true =>
      rw [if_pos rfl, Nat.testBit_and, agF_tb B al p i n]
      cases (al.testBit i || decide (p = i)) <;> cases anN (fun k => isH B al k && !(B (98 + k)).testBit i) n <;> cases (B (98 + n)).testBit i <;> rfl
section X
variable {r : RS} {B : Nat → Nat}
theorem x_toldNumber (hR : bkR B r) (hw : wfB B) {t p kd : Nat} (ht : t < 65536) (hp : p < B 0) (hp0 : B (2 + p) = 0) (hkd : kd = 2 ∨ kd = 3) : pX0_toldNumber r (nI t) (nI (mkN (fun k => lo B t k) 16)) (nI p) (nI kd) = some (nI (tol B t p kd)) := by
  have h16 := hw.1
  have al_lt : allT B t p kd < 65536 := mkN_lt' (m := 16) h16
  have hd_lt : hdT B (allT B t p kd) < 65536 := mkN_lt' (m := 16) h16
  have hal : ∀ i, (allT B t p kd).testBit i = true → i < B 0 := fun i h => (allT_tb h).1
  have halk : ∀ i, (allT B t p kd).testBit i = true → B (2 + i) = kd := fun i h => (allT_tb h).2.2.1
  have hx1 := lsT_ex hw (t := t) (p := p) (kd := kd) hp (by rcases hkd with rfl | rfl <;> decide)
  unfold pX0_toldNumber
  rw [show (-1 : Int32) = m1I from rfl, dfI, x_ofThing hR hw ht hp (by omega), ob_s, thn_eq]
  unfold tol
  generalize allT B t p kd = al at *
  rw [show (1 : Int32) = nI 1 from rfl, show (31 : Int32) = nI 31 from rfl, s1I (by omega), orI]
  have ag_lt : ∀ k, agF B al p k < 65536 := by
    intro k
    apply lt_of_tb (n := 16)
    intro i hi
    rw [agF_tb]
    have h1 : al.testBit i = false := tbF (n := 16) al_lt hi
    rw [h1, decide_eq_false (by omega)]; rfl
  have hsm : ∀ k, smN (fun k => (isH B al k).toNat) k ≤ k * 1 := fun k => smN_le (fun j _ => by cases isH B al j <;> decide)
  refine bd (lp_f (fun k => (nI (agF B al p k), nI (smN (fun k => (isH B al k).toNat) k), nI ((lsN (isH B al) k).getD p), nI k)) (x := (nI (agF B al p (B 0)), nI (smN (fun k => (isH B al k).toNat) (B 0)), nI ((lsN (isH B al) (B 0)).getD p))) (B 0) (by omega) (fun k hk => ?_) ?_) ?_
  · dsimp only [X0_toldNumber_b31, X0_toldNumber_j82]
    have g1 := hgr_lt hw k
    have g2 : hgr B k &&& al < 65536 := an_lt (n := 16) _ g1
    rw [hR.2.1, isInT (by omega) (by omega), ob_s, nI_clamp (by omega), (hR.2.2.2 k hk).2.2.2.2.2.2.2.1, (hR.2.2.2 k hk).2.2.2.2.2.2.1, anI, anI]
    simp (disch := omega) only [thn_eq, ob_s, se_l, se_r, li, lL, m1_i, nI_clamp, g_inT, leT, leF, ltT, ltF, eqT, eqF, nI_add, pk_mul, sbI, s1I, orI, dfI, Nat.reduceAdd, Nat.reduceMul, Nat.zero_add, ↓reduceIte, if_true, if_false, eqI]
    rw [smN_s, lsN_s, show agF B al p (k + 1) = if isH B al k then agF B al p k &&& B (98 + k) else agF B al p k from rfl, show isH B al k = (al.testBit k && (hgr B k &&& al) == 0) from rfl]
    generalize smN (fun k => (isH B al k).toNat) k = M
    generalize lsN (isH B al) k = L
    generalize agF B al p k = A
    cases al.testBit k with
    | false => rfl
    | true =>
      by_cases h2 : hgr B k &&& al = 0
      · rw [if_pos rfl, if_pos h2, show (hgr B k &&& al == 0) = true by simpa using h2]; rfl
      · rw [if_pos rfl, if_neg h2, show (hgr B k &&& al == 0) = false by simpa using h2]; rfl
  · dsimp only [X0_toldNumber_b31]
    rw [hR.2.1]
    simp (disch := omega) only [thn_eq, ob_s, se_l, se_r, li, lL, m1_i, nI_clamp, g_inT, leT, leF, ltT, ltF, eqT, eqF, nI_add, pk_mul, sbI, s1I, orI, dfI, Nat.reduceAdd, Nat.reduceMul, Nat.zero_add, ↓reduceIte, if_true, if_false]
  · try dsimp only
    rw [smN_hd hw hal]
    have b1 := bts_le (hdT B al)
    have tl : (lsN (isH B al) (B 0)).getD p < B 0 := by
      cases e : lsN (isH B al) (B 0) with
      | none => exact hp
      | some j => exact (lsN_some e).1
    have step : a_loop (fun (q : Int32 × Int32) => X0_toldNumber_b91 (nI kd) (nI (agF B al p (B 0))) (nI (bts (hdT B al))) q.1 q.2 r) FU (nI ((lsN (isH B al) (B 0)).getD p), (0 : Int32)) = some (nI (if 1 < bts (hdT B al) then (lsN (fun i => (agF B al p (B 0)).testBit i) (B 0)).getD ((lsN (isH B al) (B 0)).getD p) else (lsN (isH B al) (B 0)).getD p)) := by
      by_cases e1 : 1 < bts (hdT B al)
      · rw [if_pos e1]
        refine lp_acc (fun k => (lsN (fun i => (agF B al p (B 0)).testBit i) k).getD ((lsN (isH B al) (B 0)).getD p)) (B 0) (by omega) (fun k hk => ?_) ?_
        · dsimp only [X0_toldNumber_b91, X0_toldNumber_j120]
          have := ag_lt (B 0)
          rw [hR.2.1, isInT (by omega) (by omega), ob_s]
          simp (disch := omega) only [thn_eq, ob_s, se_l, se_r, li, lL, m1_i, nI_clamp, g_inT, leT, leF, ltT, ltF, eqT, eqF, nI_add, pk_mul, sbI, s1I, orI, dfI, Nat.reduceAdd, Nat.reduceMul, Nat.zero_add, ↓reduceIte, if_true, if_false]
          rw [lsN_s]
          generalize lsN (fun i => (agF B al p (B 0)).testBit i) k = L
          cases (agF B al p (B 0)).testBit k <;> rfl
        · dsimp only [X0_toldNumber_b91]
          rw [hR.2.1]
          simp (disch := omega) only [thn_eq, ob_s, se_l, se_r, li, lL, m1_i, nI_clamp, g_inT, leT, leF, ltT, ltF, eqT, eqF, nI_add, pk_mul, sbI, s1I, orI, dfI, Nat.reduceAdd, Nat.reduceMul, Nat.zero_add, ↓reduceIte, if_true, if_false]
      · rw [if_neg e1]
        refine lp_e ?_
        dsimp only [X0_toldNumber_b91]
        rw [hR.2.1]
        by_cases e0 : B 0 ≤ 0
        · simp (disch := omega) only [thn_eq, ob_s, se_l, se_r, li, lL, m1_i, nI_clamp, g_inT, leT, leF, ltT, ltF, eqT, eqF, nI_add, pk_mul, sbI, s1I, orI, dfI, Nat.reduceAdd, Nat.reduceMul, Nat.zero_add, ↓reduceIte, if_true, if_false]
        · simp (disch := omega) only [thn_eq, ob_s, se_l, se_r, li, lL, m1_i, nI_clamp, g_inT, leT, leF, ltT, ltF, eqT, eqF, nI_add, pk_mul, sbI, s1I, orI, dfI, Nat.reduceAdd, Nat.reduceMul, Nat.zero_add, ↓reduceIte, if_true, if_false]
    refine bd step ?_
    -- who tells
    have who : ∃ j, j < B 0 ∧ (if 1 < bts (hdT B al) then (lsN (fun i => (agF B al p (B 0)).testBit i) (B 0)).getD ((lsN (isH B al) (B 0)).getD p) else (lsN (isH B al) (B 0)).getD p) = j ∧ (j = p ∨ B (2 + j) = kd) ∧ (if hdT B al = 0 then B ((if kd = 2 then 34 else 18) + p) else B ((if kd = 2 then 34 else 18) + (lsT B al (hdT B al) p).getD 0)) = B ((if kd = 2 then 34 else 18) + j) := by
      by_cases e0 : hdT B al = 0
      · have : lsN (isH B al) (B 0) = none := by
          cases e : lsN (isH B al) (B 0) with
          | none => rfl
          | some j =>
            have := lsN_some e
            rw [isH_hd hal this.1, e0, Nat.zero_testBit] at this
            exact absurd this.2 (by decide)
        refine ⟨p, hp, ?_, Or.inl rfl, by rw [if_pos e0]⟩
        rw [this, e0, if_neg (by decide)]; rfl
      · obtain ⟨j, hj⟩ := hx1 e0
        have hj1 := lsN_some hj
        by_cases e1 : bts (hdT B al) = 1
        · obtain ⟨m, hm1, hm2⟩ := bts_one hd_lt e1
          have hj3 : hdT B al = 2 ^ j := by
            have := hj1.2
            rw [if_pos e1] at this
            simpa using this
          have : lsN (isH B al) (B 0) = some j := by
            obtain ⟨i, hi⟩ := lsN_ex (p := isH B al) (n := B 0) (k := j) hj1.1 (by rw [isH_hd hal hj1.1, hj3, p2_tb]; simp)
            have h5 := lsN_some hi
            rw [isH_hd hal h5.1, hj3, p2_tb] at h5
            have h6 : j = i := by simpa using h5.2
            rw [hi, h6]
          refine ⟨j, hj1.1, ?_, Or.inr ?_, ?_⟩
          · rw [if_neg (by omega), this]; rfl
          · exact halk j (hdT_tb (B := B) (al := al) (by rw [hj3, p2_tb]; simp)).2
          · rw [if_neg e0, hj]; rfl
        · have hb0 : bts (hdT B al) ≠ 0 := fun q => e0 (bts_0 hd_lt q)
          have hsame : lsN (fun i => (agF B al p (B 0)).testBit i) (B 0) = lsT B al (hdT B al) p := by
            unfold lsT
            apply lsN_cg
            intro k hk
            rw [if_neg e1, agF_tb, ahg]
            have h1 : anN (fun k_1 => isH B al k_1 && !(B (98 + k_1)).testBit k) (B 0) = anN (fun i => (hdT B al).testBit i && !(B (98 + i)).testBit k) (B 0) := anN_cg (fun i hi => by rw [isH_hd hal hi])
            rw [h1]
            congr 2
            by_cases q : k = p
            · subst q; simp
            · have q2 : ¬ p = k := fun h => q h.symm
              simp [q, q2]
          refine ⟨j, hj1.1, ?_, ?_, ?_⟩
          · rw [if_pos (by omega), hsame, hj]; rfl
          · have := hj1.2
            rw [if_neg e1] at this
            simp only [Bool.and_eq_true, Bool.or_eq_true, beq_iff_eq] at this
            rcases this.1 with q | q
            · exact Or.inr (halk j q)
            · exact Or.inl q
          · rw [if_neg e0, hj]; rfl
    obtain ⟨j, j1, j2, j3, j4⟩ := who
    rw [j2, j4]
    dsimp only [X0_toldNumber_j126]
    rw [x_isPut hR hw j1, ob_s, nI_clamp (by omega), (hR.2.2.2 j j1).2.1]
    have hn : nmB B j = if B (2 + j) = 2 then nI (B (34 + j)) else if B (2 + j) = 0 ∨ B (2 + j) = 3 then nI (B (18 + j)) else m1I := rfl
    rcases hkd with rfl | rfl
    · rw [show (2 : Int32) = nI 2 from rfl, if_pos rfl, if_pos rfl]
      rcases j3 with rfl | q
      · rw [hp0, (hR.2.2.2 j j1).2.2.1 hp0, g_inT (by omega) (by omega)]; rfl
      · rw [q] at hn
        rw [q, hn, if_neg (by decide), g_inT (by omega) (by omega)]; rfl
    · rw [show (2 : Int32) = nI 2 from rfl, if_neg (by decide), if_neg (by decide), g_inT (by omega) (by omega), hn]
      rcases j3 with rfl | q
      · rw [hp0]; rfl
      · rw [q]; rfl
end X
