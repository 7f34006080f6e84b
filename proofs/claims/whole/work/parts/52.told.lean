/-! what is told of a THING -/
theorem mkN_s (p : Nat → Bool) (n : Nat) : mkN p (n + 1) = mkN p n ||| (if p n then 2 ^ n else 0) := rfl
theorem lsN_s (p : Nat → Bool) (n : Nat) : lsN p (n + 1) = if p n then some n else lsN p n := rfl
theorem mk_if {p : Bool} {M k : Nat} {γ : Type} {f : Nat → γ} : (if p = true then f (M ||| 2 ^ k) else f M) = f (M ||| (if p = true then 2 ^ k else 0)) := by
  cases p with
  | true => rw [if_pos rfl, if_pos rfl]
  | false => rw [if_neg (by decide), if_neg (by decide), Nat.or_zero]
theorem hg_th {B : Nat → Nat} (hw : wfB B) : ∀ {k : Nat}, k < B 0 → B (2 + k) ≠ 0 → (B (98 + k)).testBit (thB B k) = true := by
  intro k
  induction k using Nat.strongRecOn with
  | ind k ih =>
    intro hk e
    obtain ⟨_, _, _, hh, ho, _, _⟩ := hw.2.2 k hk
    obtain ⟨h1, h2⟩ := ho e
    rw [thB_of hw hk e, hh]
    by_cases e2 : B (2 + B (50 + k)) = 0
    · rw [thB_put e2, h2]; rfl
    · rw [Bool.or_eq_true]
      exact Or.inr (anN_iff.mpr ⟨B (50 + k), h1, by rw [h2, ih _ h1 (by omega) e2]; rfl⟩)
theorem allT_tb {B : Nat → Nat} {t p kd i : Nat} (h : (allT B t p kd).testBit i = true) : i < B 0 ∧ t.testBit i = true ∧ B (2 + i) = kd ∧ thB B i = p ∧ lo B t i = false := by
  unfold allT at h
  rw [mkN_tb] at h
  simp only [Bool.and_eq_true, decide_eq_true_eq, beq_iff_eq, Bool.not_eq_true'] at h
  exact ⟨h.1, h.2.1.1.1, h.2.1.1.2, h.2.1.2, h.2.2⟩
theorem hdT_tb {B : Nat → Nat} {al i : Nat} (h : (hdT B al).testBit i = true) : i < B 0 ∧ al.testBit i = true := by
  unfold hdT at h
  rw [mkN_tb] at h
  simp only [Bool.and_eq_true, decide_eq_true_eq] at h
  exact ⟨h.1, h.2.1⟩
/-- there is one that all heads hang on -/
theorem lsT_ex {B : Nat → Nat} (hw : wfB B) {t p kd : Nat} (hp : p < B 0) (hkd : kd ≠ 0) (h0 : hdT B (allT B t p kd) ≠ 0) : ∃ j, lsT B (allT B t p kd) (hdT B (allT B t p kd)) p = some j := by
  have h16 := hw.1
  have hlt : hdT B (allT B t p kd) < 65536 := mkN_lt' (m := 16) h16
  unfold lsT
  by_cases e : bts (hdT B (allT B t p kd)) = 1
  · obtain ⟨k, h1, h2⟩ := bts_one hlt e
    have h3 := hdT_tb (i := k) (B := B) (al := allT B t p kd) (by rw [h2, p2_tb]; simp)
    refine lsN_ex (k := k) h3.1 ?_
    rw [if_pos e, h2]; simp
  · refine lsN_ex (k := p) hp ?_
    rw [if_neg e]
    have : ahg B (hdT B (allT B t p kd)) p = true := by
      unfold ahg
      rw [Bool.not_eq_true', anN_f]
      intro i hi
      cases q : (hdT B (allT B t p kd)).testBit i with
      | false => rfl
      | true =>
        obtain ⟨_, _, h3, h4, _⟩ := allT_tb (hdT_tb q).2
        have := hg_th hw hi (by omega)
        rw [h4] at this
        rw [this]; rfl
    rw [this]; simp
section R
variable {s : RS} {B : Nat → Nat}
theorem r_toldBy (hB : blk (s.2.2.1 4) 0 B) (hw : wfB B) {t p kd : Nat} (ht : t < 65536) (hp : p < B 0) (hkd : kd = 2 ∨ kd = 3) : pX12_toldBy s (nI t) (nI p) (nI kd) = some (nI (tol B t p kd)) := by
  have h16 := hw.1
  have hb0 : s.2.2.1 4 (0 : Int32).toNatClampNeg = nI (B 0) := hB.1 0 (by omega)
  have hc : ∀ j, j < 114 → s.2.2.1 4 j = nI (B j) := fun j h => by have := hB.1 j h; rwa [Nat.zero_add] at this
  have key : ∀ ce : Nat, ce = 34 ∨ ce = 18 → X12_toldBy_j12 (nI t) (nI p) (nI kd) (nI ce) s = some (nI (if hdT B (allT B t p kd) = 0 then B (ce + p) else B (ce + (lsT B (allT B t p kd) (hdT B (allT B t p kd)) p).getD 0))) := by
    intro ce hce
    unfold X12_toldBy_j12
    have al_lt : allT B t p kd < 65536 := mkN_lt' (m := 16) h16
    have hd_lt : hdT B (allT B t p kd) < 65536 := mkN_lt' (m := 16) h16
    refine bd (x := nI (allT B t p kd)) (lp_acc (fun k => mkN (fun k => t.testBit k && B (2 + k) == kd && thB B k == p && !lo B t k) k) (B 0) (by omega) (fun k hk => ?_) ?_) ?_
    · dsimp only [X12_toldBy_b20, X12_toldBy_j81]
      have v1 := hB.2 (2 + k)
      have t1 := (thB_lt hw hk).1
      rw [hb0, hasT (by omega) (by omega), ob_s, r_kind hB (by omega), ob_s, r_thingOf hB hw hk, ob_s, r_isLeftOut hB hw ht (by omega), ob_s]
      simp (disch := omega) only [thn_eq, ob_s, se_l, se_r, li, lL, m1_i, nI_clamp, g_inT, leT, leF, ltT, ltF, eqT, eqF, nI_add, pk_mul, sbI, s1I, orI, dfI, Nat.reduceAdd, Nat.reduceMul, Nat.zero_add, ↓reduceIte, if_true, if_false, eqI]
      rw [mkN_s]
      generalize mkN (fun k => t.testBit k && B (2 + k) == kd && thB B k == p && !lo B t k) k = M
      cases t.testBit k <;> by_cases e2 : B (2 + k) = kd <;> by_cases e3 : thB B k = p <;> cases lo B t k <;> simp [e2, e3]
    · dsimp only [X12_toldBy_b20]
      rw [hb0]
      simp (disch := omega) only [thn_eq, ob_s, se_l, se_r, li, lL, m1_i, nI_clamp, g_inT, leT, leF, ltT, ltF, eqT, eqF, nI_add, pk_mul, sbI, s1I, orI, dfI, Nat.reduceAdd, Nat.reduceMul, Nat.zero_add, ↓reduceIte, if_true, if_false]
    · try dsimp only
      have hx1 : hdT B (allT B t p kd) ≠ 0 → ∃ j, lsT B (allT B t p kd) (hdT B (allT B t p kd)) p = some j := lsT_ex hw hp (by rcases hkd with rfl | rfl <;> decide)
      have hx2 : ∀ j, lsT B (allT B t p kd) (hdT B (allT B t p kd)) p = some j → j < B 0 := fun j h => (lsN_some h).1
      generalize allT B t p kd = al at *
      refine bd (x := nI (hdT B al)) (lp_acc (fun k => mkN (fun k => al.testBit k && alN (fun i => !(al.testBit i && (B (98 + i)).testBit k)) (B 0)) k) (B 0) (by omega) (fun k hk => ?_) ?_) ?_
      · dsimp only [X12_toldBy_b93, X12_toldBy_j185]
        rw [hb0, hasT (by omega) (by omega), ob_s]
        have inner : a_loop (fun (q : Bool × Int32) => X12_toldBy_b116 (nI p) (nI ce) (nI al) (nI (mkN (fun k => al.testBit k && alN (fun i => !(al.testBit i && (B (98 + i)).testBit k)) (B 0)) k)) (nI k) q.1 q.2 s) FU (al.testBit k, (0 : Int32)) = some (al.testBit k && alN (fun i => !(al.testBit i && (B (98 + i)).testBit k)) (B 0)) := by
          have := lp_f (body := fun (q : Bool × Int32) => X12_toldBy_b116 (nI p) (nI ce) (nI al) (nI (mkN (fun k => al.testBit k && alN (fun i => !(al.testBit i && (B (98 + i)).testBit k)) (B 0)) k)) (nI k) q.1 q.2 s) (fun j => (al.testBit k && alN (fun i => !(al.testBit i && (B (98 + i)).testBit k)) j, nI j)) (x := (al.testBit k && alN (fun i => !(al.testBit i && (B (98 + i)).testBit k)) (B 0))) (B 0) (by omega) (fun j hj => ?_) ?_
          · rw [show alN (fun i => !(al.testBit i && (B (98 + i)).testBit k)) 0 = true from rfl, Bool.and_true] at this
            exact this
          · dsimp only [X12_toldBy_b116, X12_toldBy_j161, X12_toldBy_j157, X12_toldBy_j162]
            have v1 := hB.2 (98 + j)
            rw [hb0, hasT (by omega) (by omega), ob_s, r_hangsOn hB (by omega), ob_s, hasT (by omega) (by omega), ob_s]
            simp (disch := omega) only [thn_eq, ob_s, se_l, se_r, li, lL, m1_i, nI_clamp, g_inT, leT, leF, ltT, ltF, eqT, eqF, nI_add, pk_mul, sbI, s1I, orI, dfI, Nat.reduceAdd, Nat.reduceMul, Nat.zero_add, ↓reduceIte, if_true, if_false, alN]
            cases al.testBit k <;> cases al.testBit j <;> cases (B (98 + j)).testBit k <;> cases alN (fun i => !(al.testBit i && (B (98 + i)).testBit k)) j <;> rfl
          · dsimp only [X12_toldBy_b116]
            rw [hb0]
            simp (disch := omega) only [thn_eq, ob_s, se_l, se_r, li, lL, m1_i, nI_clamp, g_inT, leT, leF, ltT, ltF, eqT, eqF, nI_add, pk_mul, sbI, s1I, orI, dfI, Nat.reduceAdd, Nat.reduceMul, Nat.zero_add, ↓reduceIte, if_true, if_false]
        rw [inner, ob_s]
        simp (disch := omega) only [thn_eq, ob_s, se_l, se_r, li, lL, m1_i, nI_clamp, g_inT, leT, leF, ltT, ltF, eqT, eqF, nI_add, pk_mul, sbI, s1I, orI, dfI, Nat.reduceAdd, Nat.reduceMul, Nat.zero_add, ↓reduceIte, if_true, if_false]
        rw [mkN_s]
        generalize mkN (fun k => al.testBit k && alN (fun i => !(al.testBit i && (B (98 + i)).testBit k)) (B 0)) k = M
        cases (al.testBit k && alN (fun i => !(al.testBit i && (B (98 + i)).testBit k)) (B 0)) <;> rfl
      · dsimp only [X12_toldBy_b93]
        rw [hb0]
        simp (disch := omega) only [thn_eq, ob_s, se_l, se_r, li, lL, m1_i, nI_clamp, g_inT, leT, leF, ltT, ltF, eqT, eqF, nI_add, pk_mul, sbI, s1I, orI, dfI, Nat.reduceAdd, Nat.reduceMul, Nat.zero_add, ↓reduceIte, if_true, if_false]
      · try dsimp only
        rw [show (0 : Int32) = nI 0 from rfl, ifE (by omega) (by omega)]
        by_cases e0 : hdT B al = 0
        · rw [if_pos e0, if_pos e0]
          rcases hce with rfl | rfl <;> simp (disch := omega) only [thn_eq, ob_s, se_l, se_r, li, lL, m1_i, nI_clamp, g_inT, leT, leF, ltT, ltF, eqT, eqF, nI_add, pk_mul, sbI, s1I, orI, dfI, Nat.reduceAdd, Nat.reduceMul, Nat.zero_add, ↓reduceIte, if_true, if_false, hc]
        · rw [if_neg e0, if_neg e0]
          obtain ⟨j, hj⟩ := hx1 e0
          have hj2 := hx2 j hj
          have lp := lp_f (body := fun (q : Int32 × Int32) => X12_toldBy_b215 (nI p) (nI ce) (nI al) (nI (hdT B al)) q.1 q.2 s) (fun k => (oI (lsN (fun k => if bts (hdT B al) = 1 then hdT B al == 2 ^ k else (al.testBit k || k == p) && ahg B (hdT B al) k) k), nI k)) (x := oI (lsN (fun k => if bts (hdT B al) = 1 then hdT B al == 2 ^ k else (al.testBit k || k == p) && ahg B (hdT B al) k) (B 0))) (B 0) (by omega) (fun k hk => ?_) ?_
          · refine bd lp ?_
            rw [show lsN (fun k => if bts (hdT B al) = 1 then hdT B al == 2 ^ k else (al.testBit k || k == p) && ahg B (hdT B al) k) (B 0) = some j from hj, hj]
            dsimp only [oI, Option.getD]
            rcases hce with rfl | rfl <;> simp (disch := omega) only [thn_eq, ob_s, se_l, se_r, li, lL, m1_i, nI_clamp, g_inT, leT, leF, ltT, ltF, eqT, eqF, nI_add, pk_mul, sbI, s1I, orI, dfI, Nat.reduceAdd, Nat.reduceMul, Nat.zero_add, ↓reduceIte, if_true, if_false, hc]
          · dsimp only [X12_toldBy_b215, X12_toldBy_j263, X12_toldBy_j274, X12_toldBy_j278]
            have b1 := bts_le (hdT B al)
            have p2 : 2 ^ k < 65536 := p2_lt (n := 16) (by omega)
            rw [hb0, bitsT hd_lt, ob_s, hasT (by omega) (by omega), ob_s, r_allHang hB hw hd_lt (by omega), ob_s]
            simp (disch := omega) only [thn_eq, ob_s, se_l, se_r, li, lL, m1_i, nI_clamp, g_inT, leT, leF, ltT, ltF, eqT, eqF, nI_add, pk_mul, sbI, s1I, orI, dfI, Nat.reduceAdd, Nat.reduceMul, Nat.zero_add, ↓reduceIte, if_true, if_false, eqI]
            rw [lsN_s]
            generalize lsN (fun k => if bts (hdT B al) = 1 then hdT B al == 2 ^ k else (al.testBit k || k == p) && ahg B (hdT B al) k) k = L
            by_cases e1 : bts (hdT B al) = 1
            · rw [if_pos e1, if_pos e1]
              by_cases e2 : hdT B al = 2 ^ k
              · rw [if_pos e2, if_pos (show (hdT B al == 2 ^ k) = true by simpa using e2)]; rfl
              · rw [if_neg e2, if_neg (show ¬ (hdT B al == 2 ^ k) = true by simpa using e2)]
            · rw [if_neg e1, if_neg e1]
              cases al.testBit k with
              | true =>
                rw [if_pos rfl, Bool.true_or, Bool.true_and]
                cases ahg B (hdT B al) k <;> rfl
              | false =>
                rw [if_neg (by decide), Bool.false_or]
                by_cases e3 : k = p
                · rw [if_pos e3, show (k == p) = true by simpa using e3, Bool.true_and]
                  cases ahg B (hdT B al) k <;> rfl
                · rw [if_neg e3, show (k == p) = false by simpa using e3]; rfl
          · dsimp only [X12_toldBy_b215]
            rw [hb0]
            simp (disch := omega) only [thn_eq, ob_s, se_l, se_r, li, lL, m1_i, nI_clamp, g_inT, leT, leF, ltT, ltF, eqT, eqF, nI_add, pk_mul, sbI, s1I, orI, dfI, Nat.reduceAdd, Nat.reduceMul, Nat.zero_add, ↓reduceIte, if_true, if_false]
  unfold pX12_toldBy tol
  rcases hkd with rfl | rfl
  · rw [if_pos rfl]
    exact key 34 (Or.inl rfl)
  · rw [if_neg (by decide)]
    exact key 18 (Or.inr rfl)
end R
