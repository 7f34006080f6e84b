/-! SEALED -/
theorem cut16 : ∀ v, v < 256 → (lN v).toInt32.toInt16.toInt32.toInt64 = lN v := by decide +kernel
theorem cut32 : ∀ v, v < 256 → (lN v).toInt32.toInt64 = lN v := by decide +kernel
theorem cut_id {so v : Nat} (h0 : so ≠ 0) (h4 : so < 4) (hv : v < 256) : pX12_cut (nI so) (lN v) = some (lN v) := by
  unfold pX12_cut
  have : so = 1 ∨ so = 2 ∨ so = 3 := by omega
  rcases this with rfl | rfl | rfl
  · rw [if_neg (by decide), if_pos (by decide), cut16 v hv]
  · rw [if_neg (by decide), if_neg (by decide), if_pos (by decide), cut32 v hv]
  · rw [if_neg (by decide), if_neg (by decide), if_neg (by decide)]
theorem x_set {T : RS} {so m k v : Nat} (h1 : T.1 1 = nI so) (h2 : T.1 2 = nI m) (h0 : so ≠ 0) (h4 : so < 4) (hm : m ≤ 60) (hk : k < m) (hv : v < 256) : pX9_set T (nI k) (lN v) = some (uB T 0 (vp_updL (T.2.2.2 0) k (lN v))) := by
  unfold pX9_set
  rw [h2, if_neg (show ¬ nI k < 0 from nI_pos (by omega)), if_neg (nI_ge hk (by omega)), cut_eq h4 h1, cut_id h0 h4 hv, ob_s, g_inT (by omega) (by omega), nI_clamp (by omega), thn_eq]
/-- how many of a SET are below c; the numbers of a seal -/
def slN (B : Nat → Nat) (c : Nat) : Nat := B (2 + c) + 5 * c
def ctN (t c : Nat) : Nat := smN (fun k => (t.testBit k).toNat) c
def smS (B : Nat → Nat) (t many c : Nat) : Nat := 1 + many + smN (fun k => if t.testBit k then slN B k else 0) c
def rwS (B : Nat → Nat) (t many : Nat) (f : Nat → Int64) : Nat → Nat → Int64
  | 0 => vp_updL (vp_updL f 0 (lN 1)) 1 (lN many)
  | c + 1 => if t.testBit c then vp_updL (rwS B t many f c) (2 + ctN t c) (lN (slN B c)) else rwS B t many f c
theorem updL_cg {f g : Nat → Int64} {m k : Nat} {v : Int64} (h : ∀ j, j < m → f j = g j) : ∀ j, j < m → vp_updL f k v j = vp_updL g k v j := fun j hj => by
  by_cases e : j = k
  · rw [e, updL_at, updL_at]
  · rw [updL_ne _ _ e, updL_ne _ _ e]; exact h j hj
theorem rwS_cg {B : Nat → Nat} {t many m : Nat} {f g : Nat → Int64} (h : ∀ j, j < m → f j = g j) : ∀ c j, j < m → rwS B t many f c j = rwS B t many g c j
  | 0 => updL_cg (updL_cg h)
  | c + 1 => fun j hj => by
    have hu : ∀ f, rwS B t many f (c + 1) = if t.testBit c then vp_updL (rwS B t many f c) (2 + ctN t c) (lN (slN B c)) else rwS B t many f c := fun _ => rfl
    rw [hu, hu]
    cases t.testBit c with
    | true => rw [if_pos rfl, if_pos rfl]; exact updL_cg (rwS_cg h c) j hj
    | false => rw [if_neg (by decide), if_neg (by decide)]; exact rwS_cg h c j hj
theorem ct_le {t : Nat} : ∀ {c : Nat}, c ≤ 16 → ctN t c ≤ bts t := by
  intro c hc
  have h2 : ∀ d n, smN (fun k => (t.testBit k).toNat) n ≤ smN (fun k => (t.testBit k).toNat) (n + d) := by
    intro d n
    induction d with
    | zero => exact Nat.le_refl _
    | succ d ih => exact Nat.le_trans ih (Nat.le_add_right _ _)
  have := h2 (16 - c) c
  rwa [show c + (16 - c) = 16 by omega] at this
theorem ct_all {t n : Nat} (ht : t < 2 ^ n) (hn : n ≤ 16) : ctN t n = bts t := (bts_n ht hn).symm
section Q
variable {s r : RS} {B : Nat → Nat} {s0 s1 T : RS}
theorem q_seal (hB : blk (s.2.2.1 4) 0 B) (hw : wfB B) (hR : bkR B r) (a0 a1 : Int32) (ht : ∀ i, i < 4 → a0 = nI i → trR s i T) : (∃ s', pX12_seal s a0 a1 = some (m1I, s') ∧ rsame s s' ∧ pX11_seal s0 s1 r T a0 a1 = some (m1I, uI s0 11 (s'.1 0), T)) ∨ ∃ i a s' T', i < 4 ∧ a0 = nI i ∧ pX12_seal s a0 a1 = some (a, s') ∧ trM i s s' ∧ s'.1 0 = 0 ∧ trR s' i T' ∧ pX11_seal s0 s1 r T a0 a1 = some (a, uI s0 11 0, T') := by
  have h16 := hw.1
  have p16 : 2 ^ B 0 ≤ 2 ^ 16 := Nat.pow_le_pow_right (by decide) h16
  unfold pX12_seal pX11_seal
  simp only [thn_eq]
  rcases is_tray (uI (uI s 1 0) 0 0) a0 with ⟨i, hi, rfl, e1, e2, b1, b2⟩ | ⟨e1, e2, h⟩
  · rw [e1, e2, ob_s, ob_s, if_pos rfl, if_pos rfl]
    rcases is_set (s := uI (uI s 1 0) 0 0) hB hw hR a1 with ⟨t, htt, ht', rfl, e3, e4⟩ | ⟨e3, e4⟩
    · rw [e3, e4, ob_s, ob_s, if_pos rfl, if_pos rfl]
      simp only [tr_in hi]
      rw [nI_clamp (by omega)]
      have f1 : (uI (uI s 1 (0 : Int32)) 0 (0 : Int32)).2.2.1 1 = s.2.2.1 1 := rfl
      have f0 : (uI (uI s 1 (0 : Int32)) 0 (0 : Int32)).2.2.1 0 = s.2.2.1 0 := rfl
      rw [f1, f0]
      unfold pX9_isMissing
      rcases ht i hi rfl with ⟨m1, m2⟩ | ⟨so, m, p1, p2, p3, p4, p5, p6, p7⟩
      · left
        rw [m1, m2, if_neg (show ¬ (0 : Int32) ≤ m1I by decide), if_pos (show m1I = (-1 : Int32) from rfl)]
        exact ⟨_, rfl, rq_3 _ _ _ _, rfl⟩
      · have n1 : ¬ nI so = (-1 : Int32) := by rw [show (-1 : Int32) = m1I from rfl, m1_ne (by omega)]; exact not_false
        have bl := bts_le t
        rw [p3, p4, p5, if_pos (show (0 : Int32) ≤ nI m from nI_pos' (by omega)), if_neg n1, ob_s, if_neg (show ¬ (false = true) by decide), bitsT ht', bcT ht', ob_s, ob_s, show nI (bts t) + (3 : Int32) = nI (bts t + 3) from nI_add _ 3, ifLe (by omega) (by omega)]
        by_cases c1 : bts t + 3 ≤ m
        · have hsp : pX9_spans T (0 : Int32) (nI (bts t + 3)) = some true := by
            rcases x_spans p6 p2 (0 : Int32) (n := bts t + 3) (by omega) with ⟨a, ha, _, h⟩ | ⟨h, h2⟩
            · exact h
            · exfalso
              rcases h2 with h2 | ⟨a, ha1, ha2, ha3⟩
              · exact absurd h2 (by decide)
              · have : 0 = a := (nI_eq (a := 0) (by omega) ha1).mp ha3
                omega
          have hl := lk_lt hw t
          rw [if_pos c1, hsp, ob_s, if_pos rfl]
          by_cases c2 : so = 0
          · left
            subst c2
            rw [if_pos (show nI 0 = (0 : Int32) from rfl), if_pos (show nI 0 = (0 : Int32) from rfl)]
            exact ⟨_, rfl, rq_3 _ _ _ _, rfl⟩
          · have c2' : ¬ nI so = (0 : Int32) := fun q => c2 ((nI_eq (b := 0) (by omega) (by omega)).mp q)
            rw [if_neg c2', if_neg c2', r_lackOf (s := uI (uI s 1 0) 0 0) hB hw ht', x_isClosed hR hw ht', ob_s, ob_s]
            by_cases c3 : lk B t = 0
            · have c3' : (lk B t == 0) = true := by simpa using c3
              rw [if_pos (show nI (lk B t) = 0 by rw [c3]; rfl), c3', if_pos rfl]
              have kd4 : ∀ c, c < B 0 → slN B c < 80 := fun c hc => by
                have := (hw.2.2 c hc).1
                unfold slN; omega
              have smb : ∀ c, c ≤ B 0 → smS B t (bts t) c ≤ 17 + c * 80 := fun c hc => by
                have := smN_le (f := fun k => if t.testBit k then slN B k else 0) (c := 80) (n := c) (fun k hk => by
                  have := kd4 k (by omega)
                  split <;> omega)
                unfold smS; omega
              have cts : ∀ c, ctN t (c + 1) = ctN t c + (t.testBit c).toNat := fun c => rfl
              have sms : ∀ c, smS B t (bts t) (c + 1) = smS B t (bts t) c + (if t.testBit c then slN B c else 0) := fun c => by unfold smS; rw [smN_s, Nat.add_assoc (1 + bts t)]
              have hi60 : nI 60 * nI i = nI (60 * i) := pk_mul _ _
              -- the reference writes
              have ref : ∃ S', a_loop (fun (q : Int64 × Int32 × Int32 × RS) => X12_seal_b141 (nI i) (nI t) q.1 q.2.1 q.2.2.1 q.2.2.2) FU (lN (smS B t (bts t) 0), nI 2, nI 0, uB (uB (uI (uI s 1 0) 0 0) 2 (vp_updL (s.2.2.2 2) (60 * i) (lN 1))) 2 (vp_updL ((uB (uI (uI s 1 0) 0 0) 2 (vp_updL (s.2.2.2 2) (60 * i) (lN 1))).2.2.2 2) (60 * i + 1) (lN (bts t)))) = some (lN (smS B t (bts t) (B 0)), nI (2 + ctN t (B 0)), S') ∧ sxB 2 (uI (uI s 1 0) 0 0) S' ∧ ∀ x, S'.2.2.2 2 x = if 60 * i ≤ x ∧ x < 60 * i + 60 then rwS B t (bts t) (fun k => s.2.2.2 2 (60 * i + k)) (B 0) (x - 60 * i) else s.2.2.2 2 x := by
                obtain ⟨y, g1, S', g2, g3, g4⟩ := lp_m (body := fun (q : Int64 × Int32 × Int32 × RS) => X12_seal_b141 (nI i) (nI t) q.1 q.2.1 q.2.2.1 q.2.2.2) (I := fun d q => ∃ c S', c ≤ B 0 ∧ d = B 0 - c ∧ q = (lN (smS B t (bts t) c), nI (2 + ctN t c), nI c, S') ∧ sxB 2 (uI (uI s 1 0) 0 0) S' ∧ ∀ x, S'.2.2.2 2 x = if 60 * i ≤ x ∧ x < 60 * i + 60 then rwS B t (bts t) (fun k => s.2.2.2 2 (60 * i + k)) c (x - 60 * i) else s.2.2.2 2 x) (P := fun y => ∃ S', y = (lN (smS B t (bts t) (B 0)), nI (2 + ctN t (B 0)), S') ∧ sxB 2 (uI (uI s 1 0) 0 0) S' ∧ ∀ x, S'.2.2.2 2 x = if 60 * i ≤ x ∧ x < 60 * i + 60 then rwS B t (bts t) (fun k => s.2.2.2 2 (60 * i + k)) (B 0) (x - 60 * i) else s.2.2.2 2 x) (fun d q hd => by
                  obtain ⟨c, S', hc, rfl, rfl, hs, hx⟩ := hd
                  have hB' : blk (S'.2.2.1 4) 0 B := by rw [hs.2.2.1]; exact hB
                  have hb0 : S'.2.2.1 4 (0 : Int32).toNatClampNeg = nI (B 0) := hB'.1 0 (by omega)
                  dsimp only [X12_seal_b141, X12_seal_j216]
                  rw [g_in0 _ (by omega) (by omega), hb0]
                  rcases Nat.lt_or_eq_of_le hc with q | q
                  · left
                    have k4 := (hw.2.2 c q).1
                    have cl := ct_le (t := t) (c := c) (by omega)
                    have hval : (nI (B (2 + c))).toInt64 + (5 : Int64) * (nI c).toInt64 = lN (slN B c) := by
                      rw [nI_l (by omega), nI_l (by omega), show (5 : Int64) = lN 5 from rfl, lN_mul, lN_add]; rfl
                    have hrw : rwS B t (bts t) (fun k => s.2.2.2 2 (60 * i + k)) (c + 1) = if t.testBit c then vp_updL (rwS B t (bts t) (fun k => s.2.2.2 2 (60 * i + k)) c) (2 + ctN t c) (lN (slN B c)) else rwS B t (bts t) (fun k => s.2.2.2 2 (60 * i + k)) c := rfl
                    rw [if_neg (nI_ge q (by omega)), hasT (by omega) (by omega), ob_s]
                    cases tc : t.testBit c with
                    | true =>
                      refine ⟨B 0 - (c + 1), (lN (smS B t (bts t) (c + 1)), nI (2 + ctN t (c + 1)), nI (c + 1), uB S' 2 (vp_updL (S'.2.2.2 2) (60 * i + (2 + ctN t c)) (lN (slN B c)))), by omega, ⟨c + 1, _, by omega, rfl, rfl, sxB_tr hs (sxB_uB _ _ _), fun x => ?_⟩, ?_⟩
                      · rw [uB_at, hrw, tc, if_pos rfl]
                        by_cases e : x = 60 * i + (2 + ctN t c)
                        · rw [e, updL_at, if_pos (by omega), show 60 * i + (2 + ctN t c) - 60 * i = 2 + ctN t c by omega, updL_at]
                        · rw [updL_ne _ _ e, hx x]
                          by_cases q2 : 60 * i ≤ x ∧ x < 60 * i + 60
                          · rw [if_pos q2, if_pos q2, updL_ne _ _ (by omega)]
                          · rw [if_neg q2, if_neg q2]
                      · have hB2 : blk ((uB S' 2 (vp_updL (S'.2.2.2 2) (60 * i + (2 + ctN t c)) (lN (slN B c)))).2.2.1 4) 0 B := hB'
                        rw [if_pos rfl, r_kind hB' (by omega), ob_s, show (60 : Int32) = nI 60 from rfl, hi60, nI_add, g_inT (by omega) (by omega), nI_clamp (by omega), hval, thn_eq, r_kind hB2 (by omega), ob_s, hval, lN_add, sms, cts, tc, if_pos rfl]
                        simp only [thn_eq, nI_1]
                        rfl
                    | false =>
                      refine ⟨B 0 - (c + 1), (lN (smS B t (bts t) (c + 1)), nI (2 + ctN t (c + 1)), nI (c + 1), S'), by omega, ⟨c + 1, _, by omega, rfl, rfl, hs, fun x => ?_⟩, ?_⟩
                      · rw [hrw, tc, if_neg (show ¬ (false = true) by decide)]; exact hx x
                      · rw [if_neg (by decide), sms, cts, tc, if_neg (by decide), thn_eq, nI_1]; rfl
                  · subst q
                    refine Or.inr ⟨_, ⟨S', rfl, hs, hx⟩, by rw [if_pos (nI_le (Nat.le_refl _) (by omega))]⟩) FU (B 0) (lN (smS B t (bts t) 0), nI 2, nI 0, uB (uB (uI (uI s 1 0) 0 0) 2 (vp_updL (s.2.2.2 2) (60 * i) (lN 1))) 2 (vp_updL ((uB (uI (uI s 1 0) 0 0) 2 (vp_updL (s.2.2.2 2) (60 * i) (lN 1))).2.2.2 2) (60 * i + 1) (lN (bts t)))) (by show B 0 < 100000; omega) ⟨0, _, Nat.zero_le _, rfl, rfl, sxB_tr (sxB_uB _ _ _) (sxB_uB _ _ _), fun x => by
                  rw [uB_at, uB_at]
                  have hz : rwS B t (bts t) (fun k => s.2.2.2 2 (60 * i + k)) 0 = vp_updL (vp_updL (fun k => s.2.2.2 2 (60 * i + k)) 0 (lN 1)) 1 (lN (bts t)) := rfl
                  rw [hz]
                  by_cases e : x = 60 * i + 1
                  · rw [e, updL_at, if_pos (by omega), show 60 * i + 1 - 60 * i = 1 by omega, updL_at]
                  · rw [updL_ne _ _ e]
                    by_cases e2 : x = 60 * i
                    · rw [e2, updL_at, if_pos (by omega), Nat.sub_self, updL_ne _ _ (by omega), updL_at]
                    · rw [updL_ne _ _ e2]
                      by_cases q2 : 60 * i ≤ x ∧ x < 60 * i + 60
                      · rw [if_pos q2, updL_ne _ _ (by omega), updL_ne _ _ (by omega), show 60 * i + (x - 60 * i) = x by omega]
                      · rw [if_neg q2]⟩
                exact ⟨S', by rw [← g2]; exact g1, g3, g4⟩
              -- the class writes
              have cls : ∃ T', pX11_writeSeal s0 s1 r T (nI t) (nI (bts t)) = some T' ∧ T'.1 = T.1 ∧ T'.2.2.2 0 = vp_updL (rwS B t (bts t) (T.2.2.2 0) (B 0)) (2 + ctN t (B 0)) (lN (smS B t (bts t) (B 0) % 251)) := by
                unfold pX11_writeSeal
                have w1 : pX9_set T (0 : Int32) (1 : Int64) = some (uB T 0 (vp_updL (T.2.2.2 0) 0 (lN 1))) := x_set (k := 0) (v := 1) p5 p6 c2 p1 p2 (by omega) (by omega)
                have w2 : pX9_set (uB T 0 (vp_updL (T.2.2.2 0) 0 (lN 1))) (1 : Int32) (nI (bts t)).toInt64 = some (uB (uB T 0 (vp_updL (T.2.2.2 0) 0 (lN 1))) 0 (vp_updL (vp_updL (T.2.2.2 0) 0 (lN 1)) 1 (lN (bts t)))) := by
                  rw [nI_l (by omega)]
                  exact x_set (T := uB T 0 (vp_updL (T.2.2.2 0) 0 (lN 1))) (k := 1) (v := bts t) p5 p6 c2 p1 p2 (by omega) (by omega)
                rw [w1, ob_s, w2, ob_s, thn_eq]
                obtain ⟨y, g1, T', g2, g3, g4⟩ := lp_m (body := fun (q : Int32 × Int32 × Int32 × RS) => X11_writeSeal_b24 (nI t) q.1 q.2.1 q.2.2.1 s0 s1 r q.2.2.2) (I := fun d q => ∃ c T', c ≤ B 0 ∧ d = B 0 - c ∧ q = (nI (2 + ctN t c), nI (smS B t (bts t) c), nI c, T') ∧ T'.1 = T.1 ∧ T'.2.2.2 0 = rwS B t (bts t) (T.2.2.2 0) c) (P := fun y => ∃ T', y = (nI (2 + ctN t (B 0)), nI (smS B t (bts t) (B 0)), T') ∧ T'.1 = T.1 ∧ T'.2.2.2 0 = rwS B t (bts t) (T.2.2.2 0) (B 0)) (fun d q hd => by
                  obtain ⟨c, T', hc, rfl, rfl, hs, hx⟩ := hd
                  dsimp only [X11_writeSeal_b24, X11_writeSeal_j75]
                  rw [hR.2.1]
                  rcases Nat.lt_or_eq_of_le hc with q | q
                  · left
                    have k4 := (hw.2.2 c q).1
                    have cl := ct_le (t := t) (c := c) (by omega)
                    have k80 := kd4 c q
                    have hso : pX11_sealOf s0 s1 r (nI c) = some (nI (slN B c)) := by
                      unfold pX11_sealOf
                      rw [g_inT (by omega) (by omega), nI_clamp (by omega), (hR.2.2.2 c q).1, show (5 : Int32) = nI 5 from rfl, pk_mul, nI_add]; rfl
                    have hrw : rwS B t (bts t) (T.2.2.2 0) (c + 1) = if t.testBit c then vp_updL (rwS B t (bts t) (T.2.2.2 0) c) (2 + ctN t c) (lN (slN B c)) else rwS B t (bts t) (T.2.2.2 0) c := rfl
                    rw [if_neg (nI_ge q (by omega)), isInT (by omega) (by omega), ob_s, hso, ob_s, nI_l (by omega)]
                    cases tc : t.testBit c with
                    | true =>
                      have w3 : pX9_set T' (nI (2 + ctN t c)) (lN (slN B c)) = some (uB T' 0 (vp_updL (T'.2.2.2 0) (2 + ctN t c) (lN (slN B c)))) := x_set (by rw [hs]; exact p5) (by rw [hs]; exact p6) c2 p1 p2 (by omega) (by omega)
                      refine ⟨B 0 - (c + 1), (nI (2 + ctN t (c + 1)), nI (smS B t (bts t) (c + 1)), nI (c + 1), uB T' 0 (vp_updL (T'.2.2.2 0) (2 + ctN t c) (lN (slN B c)))), by omega, ⟨c + 1, _, by omega, rfl, rfl, hs, ?_⟩, ?_⟩
                      · rw [uB_at, hrw, tc, if_pos rfl, hx]
                      · rw [if_pos rfl, w3, ob_s, ob_s, nI_add, sms, cts, tc, if_pos rfl]
                        simp only [thn_eq, nI_1]
                        rfl
                    | false =>
                      refine ⟨B 0 - (c + 1), (nI (2 + ctN t (c + 1)), nI (smS B t (bts t) (c + 1)), nI (c + 1), T'), by omega, ⟨c + 1, _, by omega, rfl, rfl, hs, ?_⟩, ?_⟩
                      · rw [hrw, tc, if_neg (by decide)]; exact hx
                      · rw [if_neg (by decide), sms, cts, tc, if_neg (by decide), thn_eq, nI_1]; rfl
                  · subst q
                    exact Or.inr ⟨_, ⟨T', rfl, hs, hx⟩, by rw [if_pos (nI_le (Nat.le_refl _) (by omega))]⟩) FU (B 0) (nI 2, (1 : Int32) + nI (bts t), nI 0, uB (uB T 0 (vp_updL (T.2.2.2 0) 0 (lN 1))) 0 (vp_updL (vp_updL (T.2.2.2 0) 0 (lN 1)) 1 (lN (bts t)))) (by show B 0 < 100000; omega) ⟨0, uB (uB T 0 (vp_updL (T.2.2.2 0) 0 (lN 1))) 0 (vp_updL (vp_updL (T.2.2.2 0) 0 (lN 1)) 1 (lN (bts t))), Nat.zero_le _, rfl, by rw [show (1 : Int32) + nI (bts t) = nI (1 + bts t) from nI_add 1 _]; rfl, rfl, rfl⟩
                have sl := smb (B 0) (Nat.le_refl _)
                have cl := ct_le (t := t) (c := B 0) (by omega)
                have ml : smS B t (bts t) (B 0) % 251 < 256 := Nat.lt_trans (Nat.mod_lt _ (by decide)) (by decide)
                refine ⟨uB T' 0 (vp_updL (T'.2.2.2 0) (2 + ctN t (B 0)) (lN (smS B t (bts t) (B 0) % 251))), bd g1 ?_, g3, ?_⟩
                · rw [g2]
                  try dsimp only
                  rw [show (251 : Int32) = nI 251 from rfl, pk_rem (by omega) (by omega) (by omega), nI_l (by omega), x_set (by rw [g3]; exact p5) (by rw [g3]; exact p6) c2 p1 p2 (by omega) ml]; rfl
                · rw [uB_at, g4]
              obtain ⟨S', g1, g2, g3⟩ := ref
              obtain ⟨T', t1, t2, t3⟩ := cls
              have ca := ct_all htt h16
              have sl := smb (B 0) (Nat.le_refl _)
              right
              refine ⟨i, nI (bts t + 3), uB S' 2 (vp_updL (S'.2.2.2 2) (60 * i + (2 + ctN t (B 0))) (lN (smS B t (bts t) (B 0) % 251))), T', hi, rfl, ?_, ⟨⟨?_, ?_, ?_, ?_⟩, fun j _ => ?_, fun k hk => ?_⟩, ?_, ?_, ?_⟩
              · have f2 : (uI (uI s 1 (0 : Int32)) 0 (0 : Int32)).2.2.2 2 = s.2.2.2 2 := rfl
                rw [show (60 : Int32) = nI 60 from rfl, hi60, f2, g_inT (by omega) (by omega), nI_clamp (by omega), nI_1, g_inT (by omega) (by omega), nI_clamp (by omega), nI_l (by omega), show (1 : Int64) + lN (bts t) = lN (smS B t (bts t) 0) from lN_add 1 _]
                refine bd g1 ?_
                try dsimp only
                rw [nI_add, g_inT (by omega) (by omega), nI_clamp (by omega), show (251 : Int64) = lN 251 from rfl, pk_lRem (by omega) (by omega) (by omega), nI_1, ca, show 2 + bts t + 1 = bts t + 3 by omega]
              · show _ ∧ _ ∧ _ ∧ _ ∧ _
                show S'.1 8 = _ ∧ S'.1 10 = _ ∧ S'.1 11 = _ ∧ S'.1 22 = _ ∧ S'.1 43 = _
                rw [g2.1]; exact ⟨rfl, rfl, rfl, rfl, rfl⟩
              · show S'.2.1 2 = _ ∧ S'.2.1 3 = _
                rw [g2.2.1]; exact ⟨rfl, rfl⟩
              · show S'.2.2.1 3 = _ ∧ S'.2.2.1 4 = _ ∧ S'.2.2.1 14 = _
                rw [g2.2.2.1]; exact ⟨rfl, rfl, rfl⟩
              · show S'.2.2.2 5 = _
                exact g2.2.2.2 5 (by decide)
              · show S'.2.2.1 0 j = _ ∧ S'.2.2.1 1 j = _
                rw [g2.2.2.1]; exact ⟨rfl, rfl⟩
              · rw [uB_at, updL_ne _ _ (by omega), g3, if_neg (by omega)]
              · show S'.1 0 = 0
                rw [g2.1]; rfl
              · refine Or.inr ⟨so, m, p1, p2, ?_, ?_, by rw [t2]; exact p5, by rw [t2]; exact p6, fun k hk => ?_⟩
                · show S'.2.2.1 0 i = _
                  rw [g2.2.2.1]; exact p3
                · show S'.2.2.1 1 i = _
                  rw [g2.2.2.1]; exact p4
                · rw [t3, uB_at]
                  by_cases e : k = 2 + ctN t (B 0)
                  · rw [e, updL_at, updL_at]
                  · rw [updL_ne _ _ e, updL_ne _ _ (by omega), g3, if_pos (by omega), show 60 * i + k - 60 * i = k by omega]
                    exact rwS_cg p7 (B 0) k hk
              · rw [t1]; rfl
            · left
              have c3' : (lk B t == 0) = false := by simpa using c3
              rw [if_neg (show ¬ nI (lk B t) = 0 from fun q => c3 ((nI_eq (b := 0) (by omega) (by omega)).mp q)), c3']
              exact ⟨_, rfl, rq_3 _ _ _ _, rfl⟩
        · left
          have hsp : pX9_spans T (0 : Int32) (nI (bts t + 3)) = some false := by
            rcases x_spans p6 p2 (0 : Int32) (n := bts t + 3) (by omega) with ⟨a, ha, _, h⟩ | ⟨h, h2⟩
            · omega
            · exact h
          rw [if_neg c1, hsp]
          exact ⟨_, rfl, rq_3 _ _ _ _, rfl⟩
    · rw [e3, e4]; exact Or.inl ⟨_, rfl, rq_3 _ _ _ _, rfl⟩
  · rw [e1, e2]; exact Or.inl ⟨_, rfl, rq_3 _ _ _ _, rfl⟩
end Q
