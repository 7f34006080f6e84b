/-! QUESTIONS about LISTS -/
theorem lsG_mem (B : Nat → Nat) (t : Nat) {k : Nat} (hk : thr B t k = true) : ∀ {n : Nat}, k < n → ∃ i, i < (lsG B t n).1 ∧ (lsG B t n).2 i = k
  | 0, h => absurd h (Nat.not_lt_zero _)
  | n + 1, h => by
    have hp := ips_le (fun p => tol B t p 3) (lsG B t n).2 (tol B t n 3) (lsG B t n).1
    by_cases e : k = n
    · subst e
      have hu : lsG B t (k + 1) = ((lsG B t k).1 + 1, insG (lsG B t k).2 (lsG B t k).1 (ips (fun p => tol B t p 3) (lsG B t k).2 (tol B t k 3) (lsG B t k).1) k) := if_pos hk
      rw [hu]
      refine ⟨ips (fun p => tol B t p 3) (lsG B t k).2 (tol B t k 3) (lsG B t k).1, by try dsimp only; omega, ?_⟩
      show insG _ _ _ _ _ = k
      unfold insG
      rw [if_neg (Nat.lt_irrefl _), if_pos rfl]
    · obtain ⟨i, h1, h2⟩ := lsG_mem B t hk (n := n) (by omega)
      by_cases q : thr B t n = true
      · have hu : lsG B t (n + 1) = ((lsG B t n).1 + 1, insG (lsG B t n).2 (lsG B t n).1 (ips (fun p => tol B t p 3) (lsG B t n).2 (tol B t n 3) (lsG B t n).1) n) := if_pos q
        rw [hu]
        by_cases c : i < ips (fun p => tol B t p 3) (lsG B t n).2 (tol B t n 3) (lsG B t n).1
        · refine ⟨i, by try dsimp only; omega, ?_⟩
          show insG _ _ _ _ _ = k
          unfold insG
          rw [if_pos c]; exact h2
        · refine ⟨i + 1, by try dsimp only; omega, ?_⟩
          show insG _ _ _ _ _ = k
          unfold insG
          rw [if_neg (by omega), if_neg (by omega), if_pos (by omega)]; exact h2
      · have hu : lsG B t (n + 1) = lsG B t n := if_neg q
        rw [hu]; exact ⟨i, h1, h2⟩
/-- the place of a THING -/
def plG (B : Nat → Nat) (t k : Nat) : Nat := fsN (fun i => (lsG B t (B 0)).2 i == k) (lsG B t (B 0)).1
theorem plG_in {B : Nat → Nat} {t k : Nat} (hk : k < B 0) (h : thr B t k = true) : plG B t k < (lsG B t (B 0)).1 ∧ (lsG B t (B 0)).2 (plG B t k) = k := by
  obtain ⟨i, h1, h2⟩ := lsG_mem B t h hk
  have hl : plG B t k < (lsG B t (B 0)).1 := by
    rcases Nat.lt_or_ge (plG B t k) (lsG B t (B 0)).1 with q | q
    · exact q
    · have := fsN_no (fun i => (lsG B t (B 0)).2 i == k) (lsG B t (B 0)).1 i (Nat.lt_of_lt_of_le h1 q)
      rw [h2] at this
      simp at this
  have := fsN_yes (fun i => (lsG B t (B 0)).2 i == k) (lsG B t (B 0)).1 hl
  have h9 : ((lsG B t (B 0)).2 (plG B t k) == k) = true := this
  exact ⟨hl, eq_of_beq h9⟩
theorem plG_out {B : Nat → Nat} {t k : Nat} (h : thr B t k = false) : ¬ plG B t k < (lsG B t (B 0)).1 := by
  intro hl
  have h1 := fsN_yes (fun i => (lsG B t (B 0)).2 i == k) (lsG B t (B 0)).1 hl
  have h9 : ((lsG B t (B 0)).2 (plG B t k) == k) = true := h1
  have h2 : (lsG B t (B 0)).2 (plG B t k) = k := eq_of_beq h9
  have h3 := ((lsG_ok B t (B 0)).2 _ hl).2
  rw [h2, h] at h3; cases h3
section Q
variable {s r : RS} {B : Nat → Nat} {s0 s1 : RS}
theorem why_set (hB : blk (s.2.2.1 4) 0 B) (hw : wfB B) (hR : bkR B r) (a0 : Int32) : (∃ t, t < 2 ^ B 0 ∧ t < 65536 ∧ a0 = nI t ∧ lk B t = 0 ∧ pX12_whyNot s a0 = some (0 : Int32) ∧ pX11_faultOfSet s0 s1 r a0 = some (0 : Int32)) ∨ ∃ w : Int32, (w = 2 ∨ w = 9) ∧ pX12_whyNot s a0 = some w ∧ pX11_faultOfSet s0 s1 r a0 = some w := by
  unfold pX12_whyNot pX11_faultOfSet
  rcases is_set hB hw hR a0 with ⟨t, ht, ht', rfl, e1, e2⟩ | ⟨e1, e2⟩
  · have hl := lk_lt hw t
    rw [e1, e2, ob_s, ob_s, if_pos rfl, if_pos rfl, r_lackOf hB hw ht', x_isClosed hR hw ht', ob_s, ob_s]
    by_cases e : lk B t = 0
    · refine Or.inl ⟨t, ht, ht', rfl, e, ?_, ?_⟩
      · rw [if_pos (show nI (lk B t) = 0 by rw [e]; rfl)]
      · rw [if_pos (by simpa using e)]
    · refine Or.inr ⟨9, Or.inr rfl, ?_, ?_⟩
      · rw [if_neg (show ¬ nI (lk B t) = 0 from fun q => e ((nI_eq (b := 0) (by omega) (by omega)).mp q))]
      · rw [if_neg (by simpa using e)]
  · rw [e1, e2]; exact Or.inr ⟨2, Or.inl rfl, rfl, rfl⟩
theorem w_le {w : Int32} (h : w = 2 ∨ w = 9) : ¬ w ≤ 0 ∧ ¬ w = 0 := by
  rcases h with rfl | rfl <;> decide
theorem q_size {s3 : RS} (hB : blk (s.2.2.1 4) 0 B) (hw : wfB B) (hR : bkR B r) (a0 : Int32) : qL s s0 (pX12_size s a0) (pX11_size s0 s1 r s3 a0) := by
  unfold pX12_size pX11_size
  simp only [thn_eq]
  rcases why_set (s := uI s 1 0) (s0 := s0) (s1 := s1) hB hw hR a0 with ⟨t, ht, ht', rfl, hl, e1, e2⟩ | ⟨w, h9, e1, e2⟩
  · obtain ⟨s', h1, h2, h3⟩ := r_listOf_6 (s := uI (uI s 1 0) 0 0) hB hw ht'
    obtain ⟨q', h4, h5⟩ := x_fill hR hw hB.2 ht' s3
    rw [e1, e2, ob_s, ob_s, if_pos (show (uI (uI s 1 (0 : Int32)) 0 (0 : Int32)).1 0 ≤ 0 from (by decide : (0 : Int32) ≤ 0)), if_pos rfl, h1, h4, ob_s, ob_s, h5.1]
    refine ⟨_, s', q', rfl, rs_sx (rq_2 _ _ _) h2 (by decide), ?_⟩
    rw [h2.1]; rfl
  · rw [e1, e2, ob_s, ob_s, if_neg (show ¬ (uI (uI s 1 (0 : Int32)) 0 w).1 0 ≤ 0 from (w_le h9).1), if_neg (w_le h9).2]
    exact ⟨_, _, _, rfl, rq_2 _ _ _, rfl⟩
theorem x_isPlace {q : RS} {m : Nat} (hq : q.1 0 = nI m) (hm : m < 2 ^ 31) (a1 : Int32) : (∀ i, i < m → a1 = nI i → pX2_isPlace q a1 = some true) ∧ (outI a1 m → pX2_isPlace q a1 = some false) := by
  unfold pX2_isPlace
  rw [hq]
  refine ⟨fun i hi e => ?_, fun h => ?_⟩
  · subst e
    rw [if_neg (show ¬ nI i < 0 from nI_nlt (b := 0) (Nat.zero_le _) (by omega)), if_neg (nI_ge hi (by omega))]
  · rcases h with h | ⟨h1, h2, _⟩
    · rw [if_pos h]
    · rw [if_neg h1, if_pos h2]
theorem q_thing {s3 : RS} (hB : blk (s.2.2.1 4) 0 B) (hw : wfB B) (hR : bkR B r) (a0 a1 : Int32) : qL s s0 (pX12_thing s a0 a1) (pX11_thing s0 s1 r s3 a0 a1) := by
  have h16 := hw.1
  unfold pX12_thing pX11_thing
  simp only [thn_eq]
  rcases why_set (s := uI s 1 0) (s0 := s0) (s1 := s1) hB hw hR a0 with ⟨t, ht, ht', rfl, hl, e1, e2⟩ | ⟨w, h9, e1, e2⟩
  · obtain ⟨s', h1, h2, h3⟩ := r_listOf_6 (s := uI (uI s 1 0) 0 0) hB hw ht'
    obtain ⟨q', h4, h5⟩ := x_fill hR hw hB.2 ht' s3
    obtain ⟨l1, l2⟩ := lsG_ok B t (B 0)
    rw [e1, e2, ob_s, ob_s, if_pos (show (uI (uI s 1 (0 : Int32)) 0 (0 : Int32)).1 0 ≤ 0 from (by decide : (0 : Int32) ≤ 0)), if_pos rfl, h1, h4, ob_s, ob_s]
    try dsimp only
    have e25 : (uI s' 25 (nI (lsG B t (B 0)).1)).1 25 = nI (lsG B t (B 0)).1 := rfl
    have rs5 : rsame s (uI s' 25 (nI (lsG B t (B 0)).1)) := rs_uI (rs_sx (rq_2 _ _ _) h2 (by decide)) _ (by decide)
    have st5 : (uI s' 25 (nI (lsG B t (B 0)).1)).1 0 = 0 := by
      show s'.1 0 = 0
      rw [h2.1]; rfl
    rw [e25]
    obtain ⟨p1, p2⟩ := x_isPlace h5.1 (by omega) a1
    rcases isInM a1 (m := (lsG B t (B 0)).1) (by omega) with ⟨i, hi, rfl, e, _⟩ | ⟨e, h⟩
    · rw [e, p1 i hi rfl, ob_s, ob_s, if_pos rfl, if_pos rfl, g_inT (by omega) (by omega), g_inT (by omega) (by omega), nI_clamp (by omega), (h5.2 i hi).1]
      have e6 : (uI s' 25 (nI (lsG B t (B 0)).1)).2.2.1 6 i = nI ((lsG B t (B 0)).2 i) := h3 i hi
      rw [e6]
      refine ⟨_, _, q', rfl, rs5, ?_⟩
      rw [st5]; rfl
    · rw [e, p2 h, ob_s, ob_s, if_neg (by decide), if_neg (by decide)]
      exact ⟨_, _, _, rfl, rs_uI rs5 _ (by decide), rfl⟩
  · rw [e1, e2, ob_s, ob_s, if_neg (show ¬ (uI (uI s 1 (0 : Int32)) 0 w).1 0 ≤ 0 from (w_le h9).1), if_neg (w_le h9).2]
    exact ⟨_, _, _, rfl, rq_2 _ _ _, rfl⟩
theorem x_placeOf {q : RS} {t k : Nat} (hw : wfB B) (hk : k < B 0) (hq : lsR B t (B 0) q) : pX2_placeOf q (nI k) = some (if plG B t k < (lsG B t (B 0)).1 then nI (plG B t k) else m1I) := by
  have h16 := hw.1
  obtain ⟨l1, l2⟩ := lsG_ok B t (B 0)
  unfold pX2_placeOf
  refine bd (lp_fnd (fun i => (lsG B t (B 0)).2 i == k) (lsG B t (B 0)).1 (by omega) (fun i hi => ?_) ?_) ?_
  · dsimp only [X2_placeOf_b2]
    have := (l2 i hi).1
    rw [hq.1, nI_clamp (by omega), (hq.2 i hi).1]
    simp (disch := omega) only [thn_eq, ob_s, se_l, se_r, li, lL, m1_i, nI_clamp, g_inT, leT, leF, ltT, ltF, eqT, eqF, nI_add, pk_mul, sbI, s1I, orI, dfI, Nat.reduceAdd, Nat.reduceMul, Nat.zero_add, ↓reduceIte, if_true, if_false, eqI]
    by_cases e : (lsG B t (B 0)).2 i = k <;> simp [e]
  · dsimp only [X2_placeOf_b2]
    rw [hq.1]
    simp (disch := omega) only [thn_eq, ob_s, se_l, se_r, li, lL, m1_i, nI_clamp, g_inT, leT, leF, ltT, ltF, eqT, eqF, nI_add, pk_mul, sbI, s1I, orI, dfI, Nat.reduceAdd, Nat.reduceMul, Nat.zero_add, ↓reduceIte, if_true, if_false]
  · show Option.bind (some (if plG B t k < _ then _ else _)) _ = _
    by_cases e : plG B t k < (lsG B t (B 0)).1
    · rw [if_pos e, if_pos e]; rfl
    · rw [if_neg e, if_neg e]; rfl
theorem r_placeIn (hB : blk (s.2.2.1 4) 0 B) (hw : wfB B) {t k : Nat} (ht : t < 65536) (hk : k < B 0) : ∃ s', pX12_placeIn s (nI t) (nI k) = some (if plG B t k < (lsG B t (B 0)).1 then nI (plG B t k) else m1I, s') ∧ s'.1 0 = s.1 0 ∧ rsame s s' := by
  have h16 := hw.1
  obtain ⟨l1, l2⟩ := lsG_ok B t (B 0)
  obtain ⟨s', h1, h2, h3⟩ := r_listOf_6 hB hw ht
  refine ⟨uI s' 25 (nI (lsG B t (B 0)).1), ?_, by show s'.1 0 = _; rw [h2.1], rs_uI (rs_sx (rs_rf s) h2 (by decide)) _ (by decide)⟩
  unfold pX12_placeIn
  rw [h1, ob_s]
  simp only [thn_eq]
  refine bd (lp_fnd (fun i => (lsG B t (B 0)).2 i == k) (lsG B t (B 0)).1 (by omega) (fun i hi => ?_) ?_) ?_
  · dsimp only [X12_placeIn_b15]
    have := (l2 i hi).1
    rw [show (uI s' 25 (nI (lsG B t (B 0)).1)).1 25 = nI (lsG B t (B 0)).1 from rfl, nI_clamp (by omega), show (uI s' 25 (nI (lsG B t (B 0)).1)).2.2.1 6 i = nI ((lsG B t (B 0)).2 i) from h3 i hi]
    simp (disch := omega) only [thn_eq, ob_s, se_l, se_r, li, lL, m1_i, nI_clamp, g_inT, leT, leF, ltT, ltF, eqT, eqF, nI_add, pk_mul, sbI, s1I, orI, dfI, Nat.reduceAdd, Nat.reduceMul, Nat.zero_add, ↓reduceIte, if_true, if_false, eqI]
    by_cases e : (lsG B t (B 0)).2 i = k <;> simp [e]
  · dsimp only [X12_placeIn_b15]
    rw [show (uI s' 25 (nI (lsG B t (B 0)).1)).1 25 = nI (lsG B t (B 0)).1 from rfl]
    simp (disch := omega) only [thn_eq, ob_s, se_l, se_r, li, lL, m1_i, nI_clamp, g_inT, leT, leF, ltT, ltF, eqT, eqF, nI_add, pk_mul, sbI, s1I, orI, dfI, Nat.reduceAdd, Nat.reduceMul, Nat.zero_add, ↓reduceIte, if_true, if_false]
  · show Option.bind (some (if plG B t k < _ then _ else _)) _ = _
    by_cases e : plG B t k < (lsG B t (B 0)).1
    · rw [if_pos e, if_pos e]; rfl
    · rw [if_neg e, if_neg e]; rfl
/-- the three questions that name a THING -/
theorem why_thing {s3 : RS} (hB : blk (s.2.2.1 4) 0 B) (hw : wfB B) (hR : bkR B r) (a0 a1 : Int32) : (∃ t k q', t < 65536 ∧ k < B 0 ∧ a0 = nI t ∧ a1 = nI k ∧ thr B t k = true ∧ lsR B t (B 0) q' ∧ pX12_whyNoThing s a0 a1 = some (0 : Int32) ∧ pX11_findThing s0 s1 r s3 a0 a1 = some (nI (plG B t k), uI s0 11 0, q')) ∨ ∃ (w : Int32) (q' : RS), (w = 2 ∨ w = 9 ∨ w = 8) ∧ pX12_whyNoThing s a0 a1 = some w ∧ pX11_findThing s0 s1 r s3 a0 a1 = some (m1I, uI s0 11 w, q') := by
  have h16 := hw.1
  unfold pX12_whyNoThing pX11_findThing
  rcases is_set hB hw hR a0 with ⟨t, ht, ht', rfl, e1, e2⟩ | ⟨e1, e2⟩
  · rw [e1, e2, ob_s, ob_s, if_pos rfl, if_pos rfl]
    rcases is_change hB hw hR a1 with ⟨k, hk, rfl, e3, e4⟩ | ⟨e3, e4⟩
    · have hl := lk_lt hw t
      obtain ⟨q', h4, h5⟩ := x_fill hR hw hB.2 ht' s3
      obtain ⟨l1, l2⟩ := lsG_ok B t (B 0)
      rw [e3, e4, ob_s, ob_s, if_pos rfl, if_pos rfl, r_lackOf hB hw ht', x_isClosed hR hw ht', ob_s, ob_s, r_isThere hB hw ht' hk, ob_s, h4, ob_s, x_placeOf hw hk h5, ob_s]
      by_cases e : lk B t = 0
      · rw [if_pos (show nI (lk B t) = 0 by rw [e]; rfl), if_pos (show (lk B t == 0) = true by simpa using e)]
        cases q : thr B t k with
        | true =>
          obtain ⟨p1, p2⟩ := plG_in hk q
          refine Or.inl ⟨t, k, q', ht', hk, rfl, rfl, q, h5, rfl, ?_⟩
          rw [if_pos p1, show (-1 : Int32) = m1I from rfl, if_neg (by rw [m1_ne (by omega)]; exact not_false)]; rfl
        | false =>
          refine Or.inr ⟨8, q', Or.inr (Or.inr rfl), rfl, ?_⟩
          rw [if_neg (plG_out q), if_pos (show m1I = -1 from rfl)]; rfl
      · refine Or.inr ⟨9, s3, Or.inr (Or.inl rfl), ?_, ?_⟩
        · rw [if_neg (show ¬ nI (lk B t) = 0 from fun q => e ((nI_eq (b := 0) (by omega) (by omega)).mp q))]
        · rw [if_neg (by simpa using e)]; rfl
    · rw [e3, e4]; exact Or.inr ⟨2, s3, Or.inl rfl, rfl, rfl⟩
  · rw [e1, e2]; exact Or.inr ⟨2, s3, Or.inl rfl, rfl, rfl⟩
theorem w_le8 {w : Int32} (h : w = 2 ∨ w = 9 ∨ w = 8) : ¬ w ≤ 0 := by
  rcases h with rfl | rfl | rfl <;> decide
theorem x_noPlace {q : RS} : pX2_isPlace q m1I = some false := by
  unfold pX2_isPlace
  rw [if_pos (show m1I < (0 : Int32) by decide)]
theorem q_says {s3 : RS} (hB : blk (s.2.2.1 4) 0 B) (hw : wfB B) (hR : bkR B r) (a0 a1 : Int32) : qL s s0 (pX12_says s a0 a1) (pX11_says s0 s1 r s3 a0 a1) := by
  have h16 := hw.1
  unfold pX12_says pX11_says
  simp only [thn_eq]
  rcases why_thing (s := uI s 1 0) (s0 := s0) (s1 := s1) (s3 := s3) hB hw hR a0 a1 with ⟨t, k, q', ht, hk, rfl, rfl, hth, hq, e1, e2⟩ | ⟨w, q', h9, e1, e2⟩
  · obtain ⟨p1, p2⟩ := plG_in hk hth
    obtain ⟨l1, l2⟩ := lsG_ok B t (B 0)
    rw [e1, e2, ob_s, ob_s, if_pos (show (uI (uI s 1 (0 : Int32)) 0 (0 : Int32)).1 0 ≤ 0 from (by decide : (0 : Int32) ≤ 0)), show (2 : Int32) = nI 2 from rfl, r_toldBy (s := uI (uI s 1 0) 0 0) hB hw ht hk (Or.inl rfl), ob_s]
    try dsimp only
    rw [(x_isPlace hq.1 (by omega) _).1 _ p1 rfl, ob_s, if_pos rfl, g_inT (by omega) (by omega), nI_clamp (by omega), (hq.2 _ p1).2.1, p2]
    exact ⟨_, _, _, rfl, rq_2 _ _ _, rfl⟩
  · rw [e1, e2, ob_s, ob_s, if_neg (show ¬ (uI (uI s 1 (0 : Int32)) 0 w).1 0 ≤ 0 from w_le8 h9)]
    try dsimp only
    rw [x_noPlace, ob_s, if_neg (by decide)]
    exact ⟨_, _, _, rfl, rq_2 _ _ _, rfl⟩
theorem q_key {s3 : RS} (hB : blk (s.2.2.1 4) 0 B) (hw : wfB B) (hR : bkR B r) (a0 a1 : Int32) : qL s s0 (pX12_key s a0 a1) (pX11_key s0 s1 r s3 a0 a1) := by
  have h16 := hw.1
  unfold pX12_key pX11_key
  simp only [thn_eq]
  rcases why_thing (s := uI s 1 0) (s0 := s0) (s1 := s1) (s3 := s3) hB hw hR a0 a1 with ⟨t, k, q', ht, hk, rfl, rfl, hth, hq, e1, e2⟩ | ⟨w, q', h9, e1, e2⟩
  · obtain ⟨p1, p2⟩ := plG_in hk hth
    obtain ⟨l1, l2⟩ := lsG_ok B t (B 0)
    rw [e1, e2, ob_s, ob_s, if_pos (show (uI (uI s 1 (0 : Int32)) 0 (0 : Int32)).1 0 ≤ 0 from (by decide : (0 : Int32) ≤ 0)), show (3 : Int32) = nI 3 from rfl, r_toldBy (s := uI (uI s 1 0) 0 0) hB hw ht hk (Or.inr rfl), ob_s]
    try dsimp only
    rw [(x_isPlace hq.1 (by omega) _).1 _ p1 rfl, ob_s, if_pos rfl, g_inT (by omega) (by omega), nI_clamp (by omega), (hq.2 _ p1).2.2, p2]
    exact ⟨_, _, _, rfl, rq_2 _ _ _, rfl⟩
  · rw [e1, e2, ob_s, ob_s, if_neg (show ¬ (uI (uI s 1 (0 : Int32)) 0 w).1 0 ≤ 0 from w_le8 h9)]
    try dsimp only
    rw [x_noPlace, ob_s, if_neg (by decide)]
    exact ⟨_, _, _, rfl, rq_2 _ _ _, rfl⟩
theorem q_place {s3 : RS} (hB : blk (s.2.2.1 4) 0 B) (hw : wfB B) (hR : bkR B r) (a0 a1 : Int32) : qL s s0 (pX12_place s a0 a1) (pX11_place s0 s1 r s3 a0 a1) := by
  have h16 := hw.1
  unfold pX12_place pX11_place
  simp only [thn_eq]
  rcases why_thing (s := uI s 1 0) (s0 := s0) (s1 := s1) (s3 := s3) hB hw hR a0 a1 with ⟨t, k, q', ht, hk, rfl, rfl, hth, hq, e1, e2⟩ | ⟨w, q', h9, e1, e2⟩
  · obtain ⟨p1, p2⟩ := plG_in hk hth
    obtain ⟨s', h1, h2, h3⟩ := r_placeIn (s := uI (uI s 1 0) 0 0) hB hw ht hk
    rw [e1, e2, ob_s, ob_s, if_pos (show (uI (uI s 1 (0 : Int32)) 0 (0 : Int32)).1 0 ≤ 0 from (by decide : (0 : Int32) ≤ 0)), h1, ob_s, if_pos p1]
    refine ⟨_, s', q', rfl, rs_tr (rq_2 _ _ _) h3, ?_⟩
    rw [h2]; rfl
  · rw [e1, e2, ob_s, ob_s, if_neg (show ¬ (uI (uI s 1 (0 : Int32)) 0 w).1 0 ≤ 0 from w_le8 h9)]
    exact ⟨_, _, _, rfl, rq_2 _ _ _, rfl⟩
theorem why_two (hB : blk (s.2.2.1 4) 0 B) (hw : wfB B) (hR : bkR B r) (a0 a1 : Int32) : (∃ t u, t < 65536 ∧ u < 65536 ∧ a0 = nI t ∧ a1 = nI u ∧ pX12_whyNotTwo s a0 a1 = some (0 : Int32) ∧ pX11_faultOfSets s0 s1 r a0 a1 = some (0 : Int32)) ∨ ∃ w : Int32, (w = 2 ∨ w = 9) ∧ pX12_whyNotTwo s a0 a1 = some w ∧ pX11_faultOfSets s0 s1 r a0 a1 = some w := by
  unfold pX12_whyNotTwo pX11_faultOfSets
  rcases is_set hB hw hR a0 with ⟨t, ht, ht', rfl, e1, e2⟩ | ⟨e1, e2⟩
  · rw [e1, e2, ob_s, ob_s, if_pos rfl, if_pos rfl]
    rcases is_set hB hw hR a1 with ⟨u, hu, hu', rfl, e3, e4⟩ | ⟨e3, e4⟩
    · have hl := lk_lt hw t
      have hl2 := lk_lt hw u
      rw [e3, e4, ob_s, ob_s, if_pos rfl, if_pos rfl, r_lackOf hB hw ht', x_isClosed hR hw ht', ob_s, ob_s, r_lackOf hB hw hu', x_isClosed hR hw hu', ob_s, ob_s]
      by_cases e : lk B t = 0
      · rw [if_pos (show nI (lk B t) = 0 by rw [e]; rfl), if_pos (show (lk B t == 0) = true by simpa using e)]
        by_cases e5 : lk B u = 0
        · rw [if_pos (show nI (lk B u) = 0 by rw [e5]; rfl), if_pos (show (lk B u == 0) = true by simpa using e5)]
          exact Or.inl ⟨t, u, ht', hu', rfl, rfl, rfl, rfl⟩
        · rw [if_neg (show ¬ nI (lk B u) = 0 from fun q => e5 ((nI_eq (b := 0) (by omega) (by omega)).mp q)), if_neg (show ¬ (lk B u == 0) = true by simpa using e5)]
          exact Or.inr ⟨9, Or.inr rfl, rfl, rfl⟩
      · rw [if_neg (show ¬ nI (lk B t) = 0 from fun q => e ((nI_eq (b := 0) (by omega) (by omega)).mp q)), if_neg (show ¬ (lk B t == 0) = true by simpa using e)]
        exact Or.inr ⟨9, Or.inr rfl, rfl, rfl⟩
    · rw [e3, e4]; exact Or.inr ⟨2, Or.inl rfl, rfl, rfl⟩
  · rw [e1, e2]; exact Or.inr ⟨2, Or.inl rfl, rfl, rfl⟩
end Q
/-- two LISTS differ in a place -/
def dfL (B : Nat → Nat) (t u k : Nat) : Bool := !((lsG B t (B 0)).2 k == (lsG B u (B 0)).2 k && tol B t ((lsG B t (B 0)).2 k) 2 == tol B u ((lsG B t (B 0)).2 k) 2)
def dfK (B : Nat → Nat) (t u k : Nat) : Bool := !(tol B t ((lsG B t (B 0)).2 k) 3 == tol B u ((lsG B t (B 0)).2 k) 3)
section Q
variable {s r : RS} {B : Nat → Nat} {s0 s1 : RS}
theorem tol_lt (hb : ∀ j, B j < 65536) (t p kd : Nat) : tol B t p kd < 65536 := by
  unfold tol; split <;> exact hb _
theorem x_firstDifference {q q' : RS} {t u : Nat} (hw : wfB B) (hb : ∀ j, B j < 65536) (hq : lsR B t (B 0) q) (hq' : lsR B u (B 0) q') : pX2_firstDifference q q' = some (if fsN (dfL B t u) (min (lsG B t (B 0)).1 (lsG B u (B 0)).1) < min (lsG B t (B 0)).1 (lsG B u (B 0)).1 then nI (fsN (dfL B t u) (min (lsG B t (B 0)).1 (lsG B u (B 0)).1)) else if (lsG B t (B 0)).1 = (lsG B u (B 0)).1 then m1I else nI (min (lsG B t (B 0)).1 (lsG B u (B 0)).1)) := by
  have h16 := hw.1
  obtain ⟨l1, l2⟩ := lsG_ok B t (B 0)
  obtain ⟨l3, l4⟩ := lsG_ok B u (B 0)
  unfold pX2_firstDifference
  have hmin : pJ9_min_7cf53 (q.1 0) (q'.1 0) = some (nI (min (lsG B t (B 0)).1 (lsG B u (B 0)).1)) := by
    unfold pJ9_min_7cf53
    rw [hq.1, hq'.1, ifLt (by omega) (by omega)]
    by_cases e : (lsG B u (B 0)).1 < (lsG B t (B 0)).1
    · rw [if_pos e, Nat.min_eq_right (by omega)]
    · rw [if_neg e, Nat.min_eq_left (by omega)]
  rw [hmin, ob_s]
  have hm1 : min (lsG B t (B 0)).1 (lsG B u (B 0)).1 ≤ (lsG B t (B 0)).1 := Nat.min_le_left _ _
  have hm2 : min (lsG B t (B 0)).1 (lsG B u (B 0)).1 ≤ (lsG B u (B 0)).1 := Nat.min_le_right _ _
  refine bd (lp_fnd (dfL B t u) (min (lsG B t (B 0)).1 (lsG B u (B 0)).1) (by omega) (fun i hi => ?_) ?_) ?_
  · dsimp only [X2_firstDifference_b14]
    obtain ⟨a1, a2, a3⟩ := hq.2 i (by omega)
    obtain ⟨c1, c2, c3⟩ := hq'.2 i (by omega)
    have g1 := (l2 i (by omega)).1
    have g2 := (l4 i (by omega)).1
    have t1 := tol_lt hb t ((lsG B t (B 0)).2 i) 2
    have t2 := tol_lt hb u ((lsG B u (B 0)).2 i) 2
    rw [nI_clamp (by omega), a1, a2, c1, c2]
    simp (disch := omega) only [thn_eq, ob_s, se_l, se_r, li, lL, m1_i, nI_clamp, g_inT, leT, leF, ltT, ltF, eqT, eqF, nI_add, pk_mul, sbI, s1I, orI, dfI, Nat.reduceAdd, Nat.reduceMul, Nat.zero_add, ↓reduceIte, if_true, if_false, eqI]
    unfold dfL
    by_cases e1 : (lsG B t (B 0)).2 i = (lsG B u (B 0)).2 i
    · rw [← e1]
      by_cases e2 : tol B t ((lsG B t (B 0)).2 i) 2 = tol B u ((lsG B t (B 0)).2 i) 2 <;> simp [e2]
    · simp [e1]
  · dsimp only [X2_firstDifference_b14]
    simp (disch := omega) only [thn_eq, ob_s, se_l, se_r, li, lL, m1_i, nI_clamp, g_inT, leT, leF, ltT, ltF, eqT, eqF, nI_add, pk_mul, sbI, s1I, orI, dfI, Nat.reduceAdd, Nat.reduceMul, Nat.zero_add, ↓reduceIte, if_true, if_false]
  · by_cases e : fsN (dfL B t u) (min (lsG B t (B 0)).1 (lsG B u (B 0)).1) < min (lsG B t (B 0)).1 (lsG B u (B 0)).1
    · rw [if_pos e, if_pos e]; rfl
    · rw [if_neg e, if_neg e, se_r, hq.1, hq'.1, ifE (by omega) (by omega)]
      by_cases e2 : (lsG B t (B 0)).1 = (lsG B u (B 0)).1
      · rw [if_pos e2, if_pos e2]; rfl
      · rw [if_neg e2, if_neg e2]
theorem q_apart {s3 s4 : RS} (hB : blk (s.2.2.1 4) 0 B) (hw : wfB B) (hR : bkR B r) (a0 a1 : Int32) : qM s s0 (pX12_apart s a0 a1) (pX11_apart s0 s1 r s3 s4 a0 a1) := by
  have h16 := hw.1
  unfold pX12_apart pX11_apart
  simp only [thn_eq]
  rcases why_two (s := uI s 1 0) (s0 := s0) (s1 := s1) hB hw hR a0 a1 with ⟨t, u, ht, hu, rfl, rfl, e1, e2⟩ | ⟨w, h9, e1, e2⟩
  · obtain ⟨l1, l2⟩ := lsG_ok B t (B 0)
    obtain ⟨l3, l4⟩ := lsG_ok B u (B 0)
    obtain ⟨s', h1, h2, h3⟩ := r_listOf_6 (s := uI (uI s 1 0) 0 0) hB hw ht
    have hB5 : blk ((uI s' 25 (nI (lsG B t (B 0)).1)).2.2.1 4) 0 B := by
      show blk (s'.2.2.1 4) 0 B
      rw [h2.2.2.2 4 (by decide)]; exact hB
    obtain ⟨s'', k1, k2, k3⟩ := r_listOf_7 (s := uI s' 25 (nI (lsG B t (B 0)).1)) hB5 hw hu
    have hB7 : blk ((uI s'' 26 (nI (lsG B u (B 0)).1)).2.2.1 4) 0 B := by
      show blk (s''.2.2.1 4) 0 B
      rw [k2.2.2.2 4 (by decide)]; exact hB5
    obtain ⟨q', h4, h5⟩ := x_fill hR hw hB.2 ht s3
    obtain ⟨q'', h6, h7⟩ := x_fill hR hw hB.2 hu s4
    have n25 : (uI s'' 26 (nI (lsG B u (B 0)).1)).1 25 = nI (lsG B t (B 0)).1 := by
      show s''.1 25 = _
      rw [k2.1]; rfl
    have n26 : (uI s'' 26 (nI (lsG B u (B 0)).1)).1 26 = nI (lsG B u (B 0)).1 := rfl
    have r6 : ∀ i, i < (lsG B t (B 0)).1 → (uI s'' 26 (nI (lsG B u (B 0)).1)).2.2.1 6 i = nI ((lsG B t (B 0)).2 i) := fun i hi => by
      show s''.2.2.1 6 i = _
      rw [k2.2.2.2 6 (by decide)]; exact h3 i hi
    have r7 : ∀ i, i < (lsG B u (B 0)).1 → (uI s'' 26 (nI (lsG B u (B 0)).1)).2.2.1 7 i = nI ((lsG B u (B 0)).2 i) := k3
    have st7 : (uI s'' 26 (nI (lsG B u (B 0)).1)).1 0 = 0 := by
      show s''.1 0 = 0
      rw [k2.1]
      show s'.1 0 = 0
      rw [h2.1]; rfl
    have rs7 : rsame s (uI s'' 26 (nI (lsG B u (B 0)).1)) := rs_uI (rs_sx (rs_uI (rs_sx (rq_2 _ _ _) h2 (by decide)) _ (by decide)) k2 (by decide)) _ (by decide)
    rw [e1, e2, ob_s, ob_s, if_pos (show (uI (uI s 1 (0 : Int32)) 0 (0 : Int32)).1 0 ≤ 0 from (by decide : (0 : Int32) ≤ 0)), if_pos rfl, h1, h4, ob_s, ob_s]
    try dsimp only
    rw [k1, h6, ob_s, ob_s]
    try dsimp only
    rw [x_firstDifference hw hB.2 h5 h7, ob_s]
    generalize uI s'' 26 (nI (lsG B u (B 0)).1) = S at *
    have lp : a_loop (fun (q : Int32) => X12_apart_b52 (nI t) (nI u) q S) FU (0 : Int32) = some (if fsN (fun k => decide ((lsG B t (B 0)).1 ≤ k) || decide ((lsG B u (B 0)).1 ≤ k) || dfL B t u k) (max (lsG B t (B 0)).1 (lsG B u (B 0)).1) < max (lsG B t (B 0)).1 (lsG B u (B 0)).1 then .inl (nI (fsN (fun k => decide ((lsG B t (B 0)).1 ≤ k) || decide ((lsG B u (B 0)).1 ≤ k) || dfL B t u k) (max (lsG B t (B 0)).1 (lsG B u (B 0)).1))) else .inr ()) := by
      have hM : max (lsG B t (B 0)).1 (lsG B u (B 0)).1 ≤ 16 := Nat.max_le.mpr ⟨by omega, by omega⟩
      refine lp_fnd _ _ (by omega) (fun i hi => ?_) ?_
      · dsimp only [X12_apart_b52, X12_apart_j68]
        rw [n25, n26]
        by_cases c1 : (lsG B t (B 0)).1 ≤ i
        · have c2 : i < (lsG B u (B 0)).1 := by
            rcases Nat.lt_or_ge i (lsG B u (B 0)).1 with q | q
            · exact q
            · exact absurd hi (Nat.not_lt.mpr (Nat.max_le.mpr ⟨c1, q⟩))
          rw [if_neg (nI_nlt c1 (by omega)), if_neg (nI_ge c2 (by omega)), if_pos (nI_le c1 (by omega))]
          simp [c1]
        · rw [if_pos (nI_lt (by omega) (by omega)), if_neg (nI_ge (by omega) (by omega))]
          by_cases c2 : (lsG B u (B 0)).1 ≤ i
          · rw [if_pos (nI_le c2 (by omega))]
            simp [c2]
          · have g1 := (l2 i (by omega)).1
            have g2 := (l4 i (by omega)).1
            have t1 := tol_lt hB.2 t ((lsG B t (B 0)).2 i) 2
            have t2 := tol_lt hB.2 u ((lsG B t (B 0)).2 i) 2
            rw [if_neg (nI_ge (by omega) (by omega)), nI_clamp (by omega), r6 i (by omega), r7 i (by omega), show (2 : Int32) = nI 2 from rfl, r_toldBy hB7 hw ht g1 (Or.inl rfl), ob_s, r_toldBy hB7 hw hu g1 (Or.inl rfl), ob_s]
            simp (disch := omega) only [thn_eq, ob_s, se_l, se_r, li, lL, m1_i, nI_clamp, g_inT, leT, leF, ltT, ltF, eqT, eqF, nI_add, pk_mul, sbI, s1I, orI, dfI, Nat.reduceAdd, Nat.reduceMul, Nat.zero_add, ↓reduceIte, if_true, if_false, eqI, c1, c2, decide_false, Bool.false_or]
            unfold dfL
            by_cases e1 : (lsG B t (B 0)).2 i = (lsG B u (B 0)).2 i
            · rw [← e1]
              by_cases e2 : tol B t ((lsG B t (B 0)).2 i) 2 = tol B u ((lsG B t (B 0)).2 i) 2 <;> simp [e2]
            · simp [e1]
      · dsimp only [X12_apart_b52]
        rw [n25, n26, if_neg (nI_nlt (Nat.le_max_left _ _) (by omega)), if_pos (nI_le (Nat.le_max_right _ _) (by omega))]
    have fin : (if fsN (fun k => decide ((lsG B t (B 0)).1 ≤ k) || decide ((lsG B u (B 0)).1 ≤ k) || dfL B t u k) (max (lsG B t (B 0)).1 (lsG B u (B 0)).1) < max (lsG B t (B 0)).1 (lsG B u (B 0)).1 then (.inl (nI (fsN (fun k => decide ((lsG B t (B 0)).1 ≤ k) || decide ((lsG B u (B 0)).1 ≤ k) || dfL B t u k) (max (lsG B t (B 0)).1 (lsG B u (B 0)).1))) : Int32 ⊕ Unit) else .inr ()) = if fsN (dfL B t u) (min (lsG B t (B 0)).1 (lsG B u (B 0)).1) < min (lsG B t (B 0)).1 (lsG B u (B 0)).1 then .inl (nI (fsN (dfL B t u) (min (lsG B t (B 0)).1 (lsG B u (B 0)).1))) else if (lsG B t (B 0)).1 = (lsG B u (B 0)).1 then .inr () else .inl (nI (min (lsG B t (B 0)).1 (lsG B u (B 0)).1)) := by
      generalize (lsG B t (B 0)).1 = m at *
      generalize (lsG B u (B 0)).1 = n at *
      by_cases c : fsN (dfL B t u) (min m n) < min m n
      · have hy := fsN_yes _ _ c
        have e := fsN_eq (p := fun k => decide (m ≤ k) || decide (n ≤ k) || dfL B t u k) (n := max m n) (k := fsN (dfL B t u) (min m n)) (by omega) (fun j hj => by
          have := fsN_no _ _ j hj
          try dsimp only
          rw [this, decide_eq_false (by omega), decide_eq_false (by omega)]; rfl) (Or.inr (by rw [hy]; simp))
        rw [e, if_pos c, if_pos (by omega)]
      · have c' : fsN (dfL B t u) (min m n) = min m n := by
          have := fsN_le (dfL B t u) (min m n)
          omega
        by_cases c2 : m = n
        · subst c2
          have e := fsN_eq (p := fun k => decide (m ≤ k) || decide (m ≤ k) || dfL B t u k) (n := max m m) (k := max m m) (Nat.le_refl _) (fun j hj => by
            have := fsN_no (dfL B t u) (min m m) j (by omega)
            try dsimp only
            rw [this, decide_eq_false (by omega)]; rfl) (Or.inl rfl)
          rw [e, if_neg (Nat.lt_irrefl _), if_neg c, if_pos rfl]
        · have e := fsN_eq (p := fun k => decide (m ≤ k) || decide (n ≤ k) || dfL B t u k) (n := max m n) (k := min m n) (by omega) (fun j hj => by
            have := fsN_no (dfL B t u) (min m n) j (by omega)
            try dsimp only
            rw [this, decide_eq_false (by omega), decide_eq_false (by omega)]; rfl) (Or.inr (by
              try dsimp only
              rcases Nat.le_total m n with q | q
              · rw [Nat.min_eq_left q]; simp
              · rw [Nat.min_eq_right q]; simp))
          rw [e, if_pos (by omega), if_neg c, if_neg c2]
    rw [lp, fin, ob_s]
    by_cases c : fsN (dfL B t u) (min (lsG B t (B 0)).1 (lsG B u (B 0)).1) < min (lsG B t (B 0)).1 (lsG B u (B 0)).1
    · rw [if_pos c, if_pos c, show (-1 : Int32) = m1I from rfl, if_neg (by rw [m1_ne (by omega)]; exact not_false), se_l]
      refine ⟨_, _, q', q'', rfl, rs7, ?_⟩
      rw [st7]; rfl
    · rw [if_neg c, if_neg c]
      by_cases c2 : (lsG B t (B 0)).1 = (lsG B u (B 0)).1
      · rw [if_pos c2, if_pos c2, if_pos (show m1I = -1 from rfl), se_r]
        exact ⟨_, _, _, _, rfl, rs_uI rs7 _ (by decide), rfl⟩
      · rw [if_neg c2, if_neg c2, show (-1 : Int32) = m1I from rfl, if_neg (by rw [m1_ne (by omega)]; exact not_false), se_l]
        refine ⟨_, _, q', q'', rfl, rs7, ?_⟩
        rw [st7]; rfl
  · rw [e1, e2, ob_s, ob_s, if_neg (show ¬ (uI (uI s 1 (0 : Int32)) 0 w).1 0 ≤ 0 from (w_le h9).1), if_neg (w_le h9).2]
    exact ⟨_, _, _, _, rfl, rq_2 _ _ _, rfl⟩
end Q
