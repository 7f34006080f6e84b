/-! BOOKS: OF, both ways -/
/-- only what belongs to CHANGE k has changed in the Book, its kind hasn't -/
def rk (k : Nat) (r r' : RS) : Prop := r'.1 = r.1 ∧ r'.2.2.2 = r.2.2.2 ∧ (∀ n i, i ≠ k → r'.2.2.1 n i = r.2.2.1 n i) ∧ ∀ n, n = 4 ∨ n = 8 ∨ n = 10 ∨ n = 11 ∨ n = 12 → r'.2.2.1 n = r.2.2.1 n
theorem rk_rf (k : Nat) (r : RS) : rk k r r := ⟨rfl, rfl, fun _ _ _ => rfl, fun _ _ => rfl⟩
theorem rk_tr {k : Nat} {a b c : RS} (h : rk k a b) (g : rk k b c) : rk k a c := ⟨g.1.trans h.1, g.2.1.trans h.2.1, fun n i hi => (g.2.2.1 n i hi).trans (h.2.2.1 n i hi), fun n hn => (g.2.2.2 n hn).trans (h.2.2.2 n hn)⟩
theorem rk_u {k m : Nat} (r : RS) (v : Int32) (hm : m = 5 ∨ m = 6 ∨ m = 7 ∨ m = 9 ∨ m = 13 ∨ m = 14) : rk k r (uA r m (upd (r.2.2.1 m) k v)) := ⟨rfl, rfl, fun n i hi => by
  by_cases c : n = m
  · rw [c, uA_at, upd_ne _ _ hi]
  · rw [uA_ne _ _ c], fun n hn => uA_ne _ _ (by omega)⟩
theorem wf_ag {B Bc : Nat → Nat} {k : Nat} (hw : wfB B) (h0 : B 0 = k) (h0' : Bc 0 = k) (hg : agB B Bc k) : wfB Bc := by
  refine ⟨by have := hw.1; omega, by rw [hg.1]; exact hw.2.1, fun i hi => ?_⟩
  have hi' : i < k := by omega
  obtain ⟨m1, m2, m3, m4, m5, m6, m7⟩ := hw.2.2 i (by omega)
  rw [hg.2.1 i hi', hg.2.2.2.2.1 i hi', hg.2.2.2.2.2.1 i hi', hg.2.2.2.2.2.2.1 i hi', hg.2.2.2.2.2.2.2 i hi']
  refine ⟨m1, m2, m3, fun x => ?_, m5, fun q => ?_, fun q => ?_⟩
  · rw [m4 x]
    congr 1
    apply anN_cg
    intro j hj
    rw [hg.2.2.2.2.2.2.2 j (by omega)]
  · have o := (m5 (by omega)).1
    rw [hg.2.1 _ (by omega)]; exact m6 q
  · have o := (m5 (by omega)).1
    obtain ⟨p1, p2, p3⟩ := m7 q
    refine ⟨p1, p2, ?_⟩
    rw [g_wq hw h0 hg (by omega) (by omega)]; exact p3
/-- the book that is under way: B counts k CHANGES, Bc is what the block holds -/
def cxB (B Bc nm : Nat → Nat) (k : Nat) (s r : RS) : Prop := blk (s.2.2.1 4) 1440 Bc ∧ agB B Bc k ∧ Bc 0 = k ∧ nmR 80 k nm (s.2.2.2 5) (r.2.2.2 3) ∧ bkR B r
theorem cxB_nx {B Bc nm : Nat → Nat} {k : Nat} {s s' r : RS} (h : cxB B Bc nm k s r) (g : nxS s s') : cxB B Bc nm k s' r := by
  unfold cxB
  rw [g.2.2]; exact h
theorem cxB_r {B Bc nm : Nat → Nat} {k : Nat} {s r r' : RS} (h : cxB B Bc nm k s r) (g : rk k r r') (h0 : B 0 = k) : cxB B Bc nm k s r' := ⟨h.1, h.2.1, h.2.2.1, by rw [g.2.1]; exact h.2.2.2.1, bkR_cg g.1 (fun n i hi => g.2.2.1 n i (by omega)) h.2.2.2.2⟩
theorem cxB_4 {B Bc nm : Nat → Nat} {k v j : Nat} {s r : RS} (h : cxB B Bc nm k s r) (hk : k < 16) (hv : v < 65536) (hj : j = 2 + k ∨ j = 18 + k ∨ j = 34 + k ∨ j = 50 + k ∨ j = 66 + k ∨ j = 82 + k ∨ j = 98 + k) : cxB B (upN Bc j v) nm k (uA s 4 (upd (s.2.2.1 4) (1440 + j) (nI v))) r := ⟨by rw [uA_at]; exact blk_up h.1 hv, agB_tr h.2.1 (agB_up Bc v hk (by omega)), by rw [upN_ne _ _ (by omega)]; exact h.2.2.1, h.2.2.2.1, h.2.2.2.2⟩
def botB (s q : RS) (Ra : Option (Int32 × RS)) (X : Option (Bool × RS × RS)) : Prop := ∃ f st j' a s' r', badR f s' ∧ s'.1 13 = nI st ∧ Ra = some (a, s') ∧ rsB s s' ∧ X = some (false, fltX f st (uI q 10 (nI j')), r')
section V
variable {s q r s0 : RS} {b : Nat → Nat} {e T j f st k : Nat} {tb : Nat → Int64} {nm : Nat → Nat} {B Bc : Nat → Nat}
theorem of_bad (h : badR f s) (v : Int32) : X12_readOf_j53 v s = some (v, s) := by
  unfold X12_readOf_j53
  rw [must_bad h, ob_s]
theorem p_of (h : prR tb b e T j s q) (h12 : s.1 12 = nI 0) (hx : cxB B Bc nm k s r) (hw : wfB B) (h0 : B 0 = k) (hk : k < 16) : (∃ o s' r', o < k ∧ B (2 + o) ≠ 1 ∧ B (2 + o) ≠ 4 ∧ pX12_readOf s = some (nI o, s') ∧ pX1_readOf s0 q r (nI k) = some (true, uI q 10 (nI (j + 1 + 1)), r') ∧ prR tb b e T (j + 1 + 1) s' (uI q 10 (nI (j + 1 + 1))) ∧ s'.1 12 = nI 0 ∧ nxS s s' ∧ rk k r r' ∧ r'.2.2.1 7 k = nI (thB B o) ∧ r'.2.2.1 9 k = nI (2 ^ o) ∧ r'.2.2.1 5 = r.2.2.1 5) ∨ botB s q (pX12_readOf s) (pX1_readOf s0 q r (nI k)) := by
  have q10 : uI q 10 (nI j) = q := by rw [← h.2.2.2.2.1, uI_self]
  unfold pX12_readOf pX1_readOf
  rw [r_isOf h.1 h.2.2.1, ob_s, show decide (kR tb b e (tsq b e j) = 5) = decide (kJ tb b e j = 5) from rfl, show (5 : Int32) = nI 5 from rfl]
  rcases must_t h h12 (k := 5) (by omega) with ⟨t1, f1, f2, f3, f4⟩ | ⟨f, f1, f2, f3, f4⟩
  · have n1 := nx_12 f4 h12
    obtain ⟨hB, hg, hb0, hn, hR⟩ := cxB_nx hx f4
    have hc0 : t1.2.2.1 4 1440 = nI k := by
      have := hB.1 0 (by omega)
      rw [hb0] at this; exact this
    rw [f1, ob_s, f2, ob_s, if_pos rfl]
    rcases p_told f3 n1 hc0 (by omega) (by rw [hR.2.1, h0]) hn with ⟨x, g1, g2, g3, g4⟩ | ⟨f, a, g1, g2, g3, g4⟩
    · have b4 := (hR.2.2.2 x (by omega)).1
      have b7 := (hR.2.2.2 x (by omega)).2.2.2.1
      have k4 := (hw.2.2 x (by omega)).1
      rw [g2, ob_s, g3, ob_s, if_neg (show ¬ nI x = (-1 : Int32) by rw [show (-1 : Int32) = m1I from rfl, m1_ne (by omega)]; exact id), n1, if_pos (show nI 0 = (0 : Int32) from rfl), n_kind hB (by omega), ob_s, ob_s, hg.2.1 x g1]
      simp (disch := omega) only [g_inT, nI_clamp]
      rw [b4, show (1 : Int32) = nI 1 from rfl, show (4 : Int32) = nI 4 from rfl, ifE (by omega) (by omega), ifE (by omega) (by omega), ifE (by omega) (by omega), ifE (by omega) (by omega)]
      obtain ⟨F1, F2⟩ := p_fail f3 n1 5
      have e44 : X12_readOf_j44 (nI x) t1 = some (nI x, fltR 5 (tsq b e (j + 1)) t1) := by
        unfold X12_readOf_j44
        rw [show (5 : Int32) = nI 5 from rfl, F1, ob_s, of_bad ⟨rfl, by omega, by omega⟩]
      have e58 : X1_readOf_j58 s0 (uI q 10 (nI (j + 1))) r = some (false, fltX 5 (tsq b e (j + 1)) (uI q 10 (nI (j + 1))), r) := by
        unfold X1_readOf_j58
        rw [show (5 : Int32) = nI 5 from rfl, F2, ob_s]
      have bad : botB s q (some (nI x, fltR 5 (tsq b e (j + 1)) t1)) (some (false, fltX 5 (tsq b e (j + 1)) (uI q 10 (nI (j + 1))), r)) := ⟨5, tsq b e (j + 1), j + 1, nI x, _, r, ⟨rfl, by omega, by omega⟩, rfl, rfl, rsB_tr (rsB_nx f4) (rsB_flt _), rfl⟩
      by_cases c1 : B (2 + x) = 1
      · right
        rw [if_pos c1, if_pos c1, e44, e58]; exact bad
      · rw [if_neg c1, if_neg c1]
        by_cases c4 : B (2 + x) = 4
        · right
          rw [if_pos c4, if_pos c4, e44, e58]; exact bad
        · left
          obtain ⟨t2, y1, y2, y3, y4⟩ := p_next f3 (by omega)
          rw [uI_uI] at y2 y3
          rw [if_neg c4, if_neg c4, y2, ob_s]
          simp only [thn_eq]
          unfold X12_readOf_j53
          rw [must_tr n1 y1, ob_s, b7, show (31 : Int32) = nI 31 from rfl, s1I (by omega)]
          refine ⟨x, t2, _, g1, c1, c4, rfl, rfl, y3, nx_12 y4 n1, nxS_tr f4 y4, rk_tr (rk_u r (nI (thB B x)) (by omega)) (rk_u _ (nI (2 ^ x)) (by omega)), ?_, ?_, ?_⟩
          · rw [uA_ne _ _ (by decide), uA_at, upd_at]
          · rw [uA_at, upd_at]
          · rw [uA_ne _ _ (by decide), uA_ne _ _ (by decide)]
    · right
      have hb : badR f (fltR f (tsq b e (j + 1)) t1) := ⟨rfl, g1, g2⟩
      rw [g3, ob_s, g4, ob_s, if_pos (show m1I = (-1 : Int32) from rfl), if_neg (bad_eq hb), of_bad hb]
      exact ⟨f, tsq b e (j + 1), j + 1, a, _, r, hb, rfl, rfl, rsB_tr (rsB_nx f4) (rsB_flt _), rfl⟩
  · right
    have hb : badR f (fltR f (tsq b e j) s) := ⟨rfl, f1, f2⟩
    rw [f3, ob_s, f4, ob_s, if_neg Bool.false_ne_true, told_bad hb, ob_s, if_neg (bad_eq hb), of_bad hb]
    exact ⟨f, tsq b e j, j, nI 0, _, r, hb, rfl, rfl, rsB_flt _, by rw [q10]⟩
end V
