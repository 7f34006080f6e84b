/-! BOOKS: what a CHANGE says, both ways -/
/-- what is known of CHANGE k once its own words are read -/
def chF (B Bc : Nat → Nat) (r : RS) (k kd z : Nat) : Prop := z < 2 ^ k ∧ r.2.2.1 9 k = nI z ∧ r.2.2.1 5 k = nmB Bc k ∧ (kd = 0 → r.2.2.1 6 k = nI (Bc (34 + k))) ∧ r.2.2.1 7 k = nI (if kd = 0 then k else thB B (Bc (50 + k))) ∧ (kd ≠ 0 → Bc (50 + k) < k ∧ z.testBit (Bc (50 + k)) = true) ∧ (kd = 1 ∨ kd = 2 ∨ kd = 3 → B (2 + Bc (50 + k)) ≠ 1 ∧ B (2 + Bc (50 + k)) ≠ 4) ∧ (kd = 4 → Bc (66 + k) < k ∧ z.testBit (Bc (66 + k)) = true ∧ wq B (Bc (50 + k)) (Bc (66 + k)) = true ∧ r.2.2.1 13 k = nI (Bc (50 + k)) ∧ r.2.2.1 14 k = nI (Bc (66 + k)))
section V
variable {s q r s0 : RS} {b : Nat → Nat} {e T j f st k kd : Nat} {tb : Nat → Int64} {nm : Nat → Nat} {B Bc : Nat → Nat}
def whR (tb : Nat → Int64) (b : Nat → Nat) (e T : Nat) (s q r : RS) (B nm : Nat → Nat) (k kd : Nat) (Ra : Option (Int32 × RS)) (X : Option (Bool × RS × RS)) : Prop := ∃ z Bc' s' j' r', Ra = some (nI z, s') ∧ X = some (true, uI q 10 (nI j'), r') ∧ prR tb b e T j' s' (uI q 10 (nI j')) ∧ s'.1 12 = nI 0 ∧ rsB s s' ∧ cxB B Bc' nm k s' r' ∧ rk k r r' ∧ s'.2.2.2 = s.2.2.2 ∧ Bc' (2 + k) = kd ∧ chF B Bc' r' k kd z
theorem cxB_s {s' : RS} (h : cxB B Bc nm k s r) (h1 : s'.2.2.1 = s.2.2.1) (h2 : s'.2.2.2 = s.2.2.2) : cxB B Bc nm k s' r := by
  unfold cxB
  rw [h1, h2]; exact h
theorem tb_p2 (x : Nat) : (2 ^ x).testBit x = true := by rw [p2_tb, decide_eq_true rfl]
/-- PUT -/
theorem p_what0 (h : prR tb b e T j s q) (h12 : s.1 12 = nI 0) (hx : cxB B Bc nm k s r) (h0 : B 0 = k) (hk : k < 16) (hkd : Bc (2 + k) = 0) (h9 : r.2.2.1 9 k = nI 0) : whR tb b e T s q r B nm k 0 (pX12_readWhat s (nI 0) (nI k)) (pX1_readBody s0 q r (nI k) (nI 0)) ∨ botB s q (pX12_readWhat s (nI 0) (nI k)) (pX1_readBody s0 q r (nI k) (nI 0)) := by
  unfold pX12_readWhat pX1_readBody X12_readWhat_j55
  rw [if_neg (show ¬ nI 0 = (4 : Int32) by decide), if_pos (show nI 0 = (0 : Int32) from rfl), if_pos (show nI 0 = (0 : Int32) from rfl), if_pos (show nI 0 = (0 : Int32) from rfl), g_inT (by omega) (by omega), nI_clamp (by omega), thn_eq]
  have e1 : pX1_readNumber s0 q (uA r 7 (upd (r.2.2.1 7) k (nI k))) (nI k) (2 : Int32) = xnB 2 5 k q (uA r 7 (upd (r.2.2.1 7) k (nI k))) := rfl
  have e2 : ∀ q2 r2, pX1_readSaying s0 q2 r2 (nI k) = xnB 3 6 k q2 r2 := fun _ _ => rfl
  rw [e1]
  rcases p_key (r := uA r 7 (upd (r.2.2.1 7) k (nI k))) h h12 hk (nI 0) (0 : Int32) with ⟨v, t1, g1, g2, g3, g4, g5, g6⟩ | ⟨f, st, j', a, s', r', g1, g2, g3, g4, g5⟩
  · rw [g2, g3, ob_s, if_pos rfl, e2]
    unfold X12_readWhat_j90
    rw [if_pos (show nI 0 = (0 : Int32) from rfl)]
    have hx1 := cxB_4 (v := v) (j := 18 + k) (cxB_nx hx g6) hk (by omega) (by omega)
    rcases p_says (r := uA (uA r 7 (upd (r.2.2.1 7) k (nI k))) 5 (upd ((uA r 7 (upd (r.2.2.1 7) k (nI k))).2.2.1 5) k (nI v))) (prR_4 g4 (upd (t1.2.2.1 4) (1440 + (18 + k)) (nI v))) g5 hk 6 (0 : Int32) with ⟨u, t2, p1, p2, p3, p4, p5, p6⟩ | ⟨f, st, j', a, s', r', p1, p2, p3, p4, p5⟩
    · left
      rw [uI_uI] at p3 p4
      rw [p2, p3, ob_s, if_pos rfl]
      have hx2 := cxB_4 (v := u) (j := 34 + k) (cxB_nx hx1 p6) hk (by omega) (by omega)
      have rr := rk_tr (rk_tr (rk_u (k := k) r (nI k) (m := 7) (by omega)) (rk_u (k := k) _ (nI v) (m := 5) (by omega))) (rk_u (k := k) _ (nI u) (m := 6) (by omega))
      refine ⟨0, upN (upN Bc (18 + k) v) (34 + k) u, _, j + 1 + 1 + 1 + 1, _, rfl, rfl, prR_4 p4 _, p5, rsB_tr (rsB_tr (rsB_nx g6) (rsB_4 (x := 1440 + (18 + k)) _ _ (by omega))) (rsB_tr (rsB_nx p6) (rsB_4 (x := 1440 + (34 + k)) _ _ (by omega))), cxB_r hx2 rr h0, rr, ?_, ?_, Nat.two_pow_pos k, ?_, ?_, fun _ => ?_, ?_, fun c => absurd rfl c, fun c => by omega, fun c => by omega⟩
      · show t2.2.2.2 = s.2.2.2
        rw [p6.2.2]
        show t1.2.2.2 = s.2.2.2
        rw [g6.2.2]
      · rw [upN_ne _ _ (by omega), upN_ne _ _ (by omega), hkd]
      · rw [uA_ne _ _ (by decide), uA_ne _ _ (by decide), uA_ne _ _ (by decide), h9]
      · rw [uA_ne _ _ (by decide), uA_at, upd_at]
        unfold nmB
        rw [upN_ne _ _ (show 2 + k ≠ 34 + k by omega), upN_ne _ _ (show 2 + k ≠ 18 + k by omega), hkd, if_neg (by decide), if_pos (Or.inl rfl), upN_ne _ _ (show 18 + k ≠ 34 + k by omega), upN_at]
      · rw [uA_at, upd_at, upN_at]
      · rw [uA_ne _ _ (by decide), uA_ne _ _ (by decide), uA_at, upd_at, if_pos rfl]
    · right
      rw [uI_uI] at p5
      rw [p5, ob_s, if_neg Bool.false_ne_true]
      exact ⟨f, st, j', a, s', r', p1, p2, p3, rsB_tr (rsB_tr (rsB_nx g6) (rsB_4 (x := 1440 + (18 + k)) _ _ (by omega))) p4, rfl⟩
  · right
    rw [g5, ob_s, if_neg Bool.false_ne_true]
    exact ⟨f, st, j', a, s', r', g1, g2, g3, g4, rfl⟩
/-- TAKE, NAME, MOVE -/
theorem p_what1 (h : prR tb b e T j s q) (h12 : s.1 12 = nI 0) (hx : cxB B Bc nm k s r) (hw : wfB B) (h0 : B 0 = k) (hk : k < 16) (hkd : Bc (2 + k) = kd) (c123 : kd = 1 ∨ kd = 2 ∨ kd = 3) (h5 : r.2.2.1 5 k = m1I) : whR tb b e T s q r B nm k kd (pX12_readWhat s (nI kd) (nI k)) (pX1_readBody s0 q r (nI k) (nI kd)) ∨ botB s q (pX12_readWhat s (nI kd) (nI k)) (pX1_readBody s0 q r (nI k) (nI kd)) := by
  have hw0 : ∀ x, (pX12_readOf s).bind (fun x9 => g_in ((1490 : Int32) + nI k) 1800 (thn (uA x9.2 4 (upd (x9.2.2.2.1 4) ((1490 : Int32) + nI k).toNatClampNeg x9.1)) fun s10 => if (s10.1 12) = 0 then g_in ((1490 : Int32) + nI k) 1800 (X12_readWhat_j54 (nI kd) (nI k) ((1 : Int32) <<< ((s10.2.2.1 4 ((1490 : Int32) + nI k).toNatClampNeg) &&& 31)) s10) else X12_readWhat_j54 (nI kd) (nI k) (0 : Int32) s10)) = x → pX12_readWhat s (nI kd) (nI k) = x := fun x hh => by
    unfold pX12_readWhat
    rw [if_neg (show ¬ nI kd = (4 : Int32) from fun q => by have := (nI_eq (b := 4) (by omega) (by omega)).mp q; omega), if_neg (show ¬ nI kd = (0 : Int32) from fun q => by have := (nI_eq (b := 0) (by omega) (by omega)).mp q; omega)]
    exact hh
  have hb0 : ∀ x, (pX1_readOf s0 q r (nI k)).bind (fun x5 => if x5.1 = true then (if kd = 1 then some (true, x5.2.1, x5.2.2) else if kd = 2 then xnB 3 5 k x5.2.1 x5.2.2 else xnB 2 5 k x5.2.1 x5.2.2) else some (false, x5.2.1, x5.2.2)) = x → pX1_readBody s0 q r (nI k) (nI kd) = x := fun x hh => by
    have e3 : ∀ q2 r2, pX1_readNumber s0 q2 r2 (nI k) (3 : Int32) = xnB 3 5 k q2 r2 := fun _ _ => rfl
    have e2 : ∀ q2 r2, pX1_readNumber s0 q2 r2 (nI k) (2 : Int32) = xnB 2 5 k q2 r2 := fun _ _ => rfl
    have eo : ∀ o : Option (Bool × RS × RS), (o.bind fun x6 => if x6.1 = true then some (true, x6.2.1, x6.2.2) else some (false, x6.2.1, x6.2.2)) = o := fun o => by
      cases o with
      | none => rfl
      | some y =>
        obtain ⟨y1, y2, y3⟩ := y
        cases y1 <;> rfl
    unfold pX1_readBody
    rw [← hh]
    rcases c123 with rfl | rfl | rfl
    · rw [if_neg (show ¬ nI 1 = (0 : Int32) by decide), if_pos (show nI 1 = (1 : Int32) from rfl)]
      cases pX1_readOf s0 q r (nI k) with
      | none => rfl
      | some y =>
        obtain ⟨y1, y2, y3⟩ := y
        cases y1 <;> rfl
    · rw [if_neg (show ¬ nI 2 = (0 : Int32) by decide), if_neg (show ¬ nI 2 = (1 : Int32) by decide), if_pos (show nI 2 = (2 : Int32) from rfl)]
      congr 1
      funext x5
      rw [e3, eo]; rfl
    · rw [if_neg (show ¬ nI 3 = (0 : Int32) by decide), if_neg (show ¬ nI 3 = (1 : Int32) by decide), if_neg (show ¬ nI 3 = (2 : Int32) by decide), if_pos (show nI 3 = (3 : Int32) from rfl)]
      congr 1
      funext x5
      rw [e2, eo]; rfl
  rw [show pX12_readWhat s (nI kd) (nI k) = _ from hw0 _ rfl, show pX1_readBody s0 q r (nI k) (nI kd) = _ from hb0 _ rfl]
  rw [show (1490 : Int32) = nI 1490 from rfl, nI_add, nI_clamp (by omega), show 1490 + k = 1440 + (50 + k) by omega]
  simp (disch := omega) only [g_inT, thn_eq]
  unfold X12_readWhat_j54
  rcases p_of (s0 := s0) h h12 hx hw h0 hk with ⟨o, t1, r1, o1, o2, o3, g1, g2, g3, g4, g5, g6, g7, g8, g9⟩ | ⟨f, st, j', a, s', r', g1, g2, g3, g4, g5⟩
  · have hx1 := cxB_4 (v := o) (j := 50 + k) (cxB_r (cxB_nx hx g5) g6 h0) hk (by omega) (by omega)
    have p1 := prR_4 g3 (upd (t1.2.2.1 4) (1440 + (50 + k)) (nI o))
    have n1 : (uA t1 4 (upd (t1.2.2.1 4) (1440 + (50 + k)) (nI o))).1 12 = nI 0 := g4
    have c1 : (uA t1 4 (upd (t1.2.2.1 4) (1440 + (50 + k)) (nI o))).2.2.1 4 (1440 + (50 + k)) = nI o := by rw [uA_at, upd_at]
    have rs1 : rsB s (uA t1 4 (upd (t1.2.2.1 4) (1440 + (50 + k)) (nI o))) := rsB_tr (rsB_nx g5) (rsB_4 (x := 1440 + (50 + k)) _ _ (by omega))
    have w1 : (uA t1 4 (upd (t1.2.2.1 4) (1440 + (50 + k)) (nI o))).2.2.2 = s.2.2.2 := by
      show t1.2.2.2 = _
      rw [g5.2.2]
    rw [g1, ob_s, g2, ob_s, if_pos rfl]
    dsimp only
    generalize uA t1 4 (upd (t1.2.2.1 4) (1440 + (50 + k)) (nI o)) = t2 at *
    have b2 : upN Bc (50 + k) o (2 + k) = kd := by rw [upN_ne _ _ (by omega), hkd]
    have h2o : 2 ^ o < 2 ^ k := p2_lt o1
    rw [n1, if_pos (show nI 0 = (0 : Int32) from rfl), c1, show (1 : Int32) = nI 1 from rfl, show (31 : Int32) = nI 31 from rfl, s1I (by omega)]
    unfold X12_readWhat_j55
    rw [if_neg (show ¬ nI kd = (0 : Int32) from fun q => by have := (nI_eq (b := 0) (by omega) (by omega)).mp q; omega), show (3 : Int32) = nI 3 from rfl, ifE (by omega) (by omega)]
    rcases c123 with rfl | rfl | rfl
    · left
      rw [if_neg (by decide), if_pos rfl]
      unfold X12_readWhat_j90
      rw [if_neg (show ¬ nI 1 = (0 : Int32) by decide), if_neg (show ¬ nI 1 = (2 : Int32) by decide)]
      refine ⟨2 ^ o, upN Bc (50 + k) o, t2, j + 1 + 1, r1, rfl, rfl, p1, n1, rs1, hx1, g6, w1, b2, h2o, g8, ?_, fun c => by omega, ?_, fun _ => ?_, fun _ => ?_, fun c => by omega⟩
      · rw [g9, h5]
        unfold nmB
        rw [b2, if_neg (by decide), if_neg (by decide)]
      · rw [if_neg (by decide), upN_at]; exact g7
      · rw [upN_at]; exact ⟨o1, tb_p2 o⟩
      · rw [upN_at]; exact ⟨o2, o3⟩
    · rw [if_neg (by decide), if_neg (by decide), if_pos rfl]
      unfold X12_readWhat_j90
      rw [if_neg (show ¬ nI 2 = (0 : Int32) by decide), if_pos (show nI 2 = (2 : Int32) from rfl)]
      rcases p_says (r := r1) p1 n1 hk 5 (nI (2 ^ o)) with ⟨u, t3, m1, m2, m3, m4, m5, m6⟩ | ⟨f, st, j', a, s', r', m1, m2, m3, m4, m5⟩
      · left
        rw [uI_uI] at m3 m4
        have hx3 := cxB_4 (v := u) (j := 34 + k) (cxB_nx hx1 m6) hk (by omega) (by omega)
        have rr := rk_u (k := k) r1 (nI u) (m := 5) (by omega)
        refine ⟨2 ^ o, upN (upN Bc (50 + k) o) (34 + k) u, _, j + 1 + 1 + 1 + 1, _, m2, m3, prR_4 m4 _, m5, rsB_tr rs1 (rsB_tr (rsB_nx m6) (rsB_4 (x := 1440 + (34 + k)) _ _ (by omega))), cxB_r hx3 rr h0, rk_tr g6 rr, ?_, ?_, h2o, ?_, ?_, fun c => by omega, ?_, fun _ => ?_, fun _ => ?_, fun c => by omega⟩
        · show t3.2.2.2 = _
          rw [m6.2.2, w1]
        · rw [upN_ne _ _ (by omega), b2]
        · rw [uA_ne _ _ (by decide)]; exact g8
        · rw [uA_at, upd_at]
          unfold nmB
          rw [upN_ne _ _ (show 2 + k ≠ 34 + k by omega), b2, if_pos rfl, upN_at]
        · rw [uA_ne _ _ (by decide), if_neg (by decide), upN_ne _ _ (show 50 + k ≠ 34 + k by omega), upN_at]; exact g7
        · rw [upN_ne _ _ (show 50 + k ≠ 34 + k by omega), upN_at]; exact ⟨o1, tb_p2 o⟩
        · rw [upN_ne _ _ (show 50 + k ≠ 34 + k by omega), upN_at]; exact ⟨o2, o3⟩
      · right
        rw [uI_uI] at m5
        exact ⟨f, st, j', a, s', r', m1, m2, m3, rsB_tr rs1 m4, m5⟩
    · rw [if_pos rfl, if_neg (by decide), if_neg (by decide)]
      rcases p_key (r := r1) p1 n1 hk (nI 3) (nI (2 ^ o)) with ⟨u, t3, m1, m2, m3, m4, m5, m6⟩ | ⟨f, st, j', a, s', r', m1, m2, m3, m4, m5⟩
      · left
        rw [uI_uI] at m3 m4
        have hx3 := cxB_4 (v := u) (j := 18 + k) (cxB_nx hx1 m6) hk (by omega) (by omega)
        have rr := rk_u (k := k) r1 (nI u) (m := 5) (by omega)
        rw [m2]
        unfold X12_readWhat_j90
        rw [if_neg (show ¬ nI 3 = (0 : Int32) by decide), if_neg (show ¬ nI 3 = (2 : Int32) by decide)]
        refine ⟨2 ^ o, upN (upN Bc (50 + k) o) (18 + k) u, _, j + 1 + 1 + 1 + 1, _, rfl, m3, prR_4 m4 _, m5, rsB_tr rs1 (rsB_tr (rsB_nx m6) (rsB_4 (x := 1440 + (18 + k)) _ _ (by omega))), cxB_r hx3 rr h0, rk_tr g6 rr, ?_, ?_, h2o, ?_, ?_, fun c => by omega, ?_, fun _ => ?_, fun _ => ?_, fun c => by omega⟩
        · show t3.2.2.2 = _
          rw [m6.2.2, w1]
        · rw [upN_ne _ _ (by omega), b2]
        · rw [uA_ne _ _ (by decide)]; exact g8
        · rw [uA_at, upd_at]
          unfold nmB
          rw [upN_ne _ _ (show 2 + k ≠ 18 + k by omega), b2, if_neg (by decide), if_pos (Or.inr rfl), upN_at]
        · rw [uA_ne _ _ (by decide), if_neg (by decide), upN_ne _ _ (show 50 + k ≠ 18 + k by omega), upN_at]; exact g7
        · rw [upN_ne _ _ (show 50 + k ≠ 18 + k by omega), upN_at]; exact ⟨o1, tb_p2 o⟩
        · rw [upN_ne _ _ (show 50 + k ≠ 18 + k by omega), upN_at]; exact ⟨o2, o3⟩
      · right
        rw [uI_uI] at m5
        exact ⟨f, st, j', a, s', r', m1, m2, m3, rsB_tr rs1 m4, m5⟩
  · right
    rw [g3, ob_s, g5, ob_s, if_neg Bool.false_ne_true]
    have hb : badR f (uA s' 4 (upd (s'.2.2.1 4) (1440 + (50 + k)) a)) := g1
    dsimp only
    rw [if_neg (bad_eq hb)]
    obtain ⟨u, y1, y2, y3, y4⟩ := j55_bad hb hk (nI kd) (0 : Int32)
    exact ⟨f, st, j', (0 : Int32), u, r', y2, y3.trans g2, y1, rsB_tr (rsB_tr g4 (rsB_4 (x := 1440 + (50 + k)) _ _ (by omega))) y4, rfl⟩
/-- SETTLE -/
theorem p_what4 (h : prR tb b e T j s q) (h12 : s.1 12 = nI 0) (hx : cxB B Bc nm k s r) (hw : wfB B) (h0 : B 0 = k) (hk : k < 16) (hkd : Bc (2 + k) = 4) (h5 : r.2.2.1 5 k = m1I) : whR tb b e T s q r B nm k 4 (pX12_readWhat s (nI 4) (nI k)) (pX1_readBody s0 q r (nI k) (nI 4)) ∨ botB s q (pX12_readWhat s (nI 4) (nI k)) (pX1_readBody s0 q r (nI k) (nI 4)) := by
  unfold pX12_readWhat pX1_readBody
  rw [if_pos (show nI 4 = (4 : Int32) from rfl), if_neg (show ¬ nI 4 = (0 : Int32) by decide), if_neg (show ¬ nI 4 = (1 : Int32) by decide), if_neg (show ¬ nI 4 = (2 : Int32) by decide), if_neg (show ¬ nI 4 = (3 : Int32) by decide)]
  rcases p_settle (s0 := s0) h h12 hx hw h0 hk with ⟨x, y, s', r', g1, g2, g3, g4, g5, g6, g7, g8, g9, g10, g11, g12, g13, g14, g15, g16⟩ | ⟨f, st, j', a, s', r', g1, g2, g3, g4, g5⟩
  · left
    rw [g4, ob_s, g5, ob_s]
    have e50 : upN (upN Bc (50 + k) x) (66 + k) y (50 + k) = x := by rw [upN_ne _ _ (by omega), upN_at]
    have e66 : upN (upN Bc (50 + k) x) (66 + k) y (66 + k) = y := upN_at _ _ _
    have e2 : upN (upN Bc (50 + k) x) (66 + k) y (2 + k) = 4 := by rw [upN_ne _ _ (by omega), upN_ne _ _ (by omega), hkd]
    refine ⟨2 ^ x ||| 2 ^ y, _, s', j + 1 + 1 + 1 + 1, r', rfl, rfl, g6, g7, g8, g9, g10, g11, e2, or_lt (p2_lt g1) (p2_lt g2), g13, ?_, fun c => by omega, ?_, fun _ => ?_, fun c => by omega, fun _ => ?_⟩
    · rw [g16, h5]
      unfold nmB
      rw [e2, if_neg (by decide), if_neg (by decide)]
    · rw [if_neg (by decide), e50]; exact g12
    · rw [e50]; exact ⟨g1, by rw [Nat.testBit_or, tb_p2]; rfl⟩
    · rw [e50, e66]; exact ⟨g2, by rw [Nat.testBit_or, tb_p2, Bool.or_true], g3, g14, g15⟩
  · right
    rw [g3, ob_s, g5, ob_s]
    exact ⟨f, st, j', a, s', r', g1, g2, rfl, g4, rfl⟩
theorem p_what (h : prR tb b e T j s q) (h12 : s.1 12 = nI 0) (hx : cxB B Bc nm k s r) (hw : wfB B) (h0 : B 0 = k) (hk : k < 16) (hkd : Bc (2 + k) = kd) (h4 : kd ≤ 4) (h5 : r.2.2.1 5 k = m1I) (h9 : r.2.2.1 9 k = nI 0) : whR tb b e T s q r B nm k kd (pX12_readWhat s (nI kd) (nI k)) (pX1_readBody s0 q r (nI k) (nI kd)) ∨ botB s q (pX12_readWhat s (nI kd) (nI k)) (pX1_readBody s0 q r (nI k) (nI kd)) := by
  by_cases c0 : kd = 0
  · rw [c0] at hkd ⊢; exact p_what0 h h12 hx h0 hk hkd h9
  · by_cases c4 : kd = 4
    · rw [c4] at hkd ⊢; exact p_what4 h h12 hx hw h0 hk hkd h5
    · exact p_what1 h h12 hx hw h0 hk hkd (by omega) h5
end V
