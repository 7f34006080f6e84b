/-! ORDER out of a TRAY -/
theorem lp_anyA {body : Int32 × Int32 → Option ((Int32 × Int32) ⊕ (Unit ⊕ Unit))} (F : Nat → Nat) (p : Nat → Bool) (n : Nat) (hn : n < 100000) (hs : ∀ k, k < n → (∀ j, j < k → p j = false) → body (nI (F k), nI k) = if p k then some (.inr (.inl ())) else some (.inl (nI (F (k + 1)), nI (k + 1)))) (he : body (nI (F n), nI n) = some (.inr (.inr ()))) : a_loop body FU (nI (F 0), nI 0) = some (if anN p n then .inl () else .inr ()) := by
  obtain ⟨x, h1, h2⟩ := lp_m (body := body) (I := fun m s => ∃ k, k ≤ n ∧ m = n - k ∧ s = (nI (F k), nI k) ∧ ∀ j, j < k → p j = false) (P := fun x => x = if anN p n then .inl () else .inr ()) (fun m s hi => by
    obtain ⟨k, hk, rfl, rfl, hp⟩ := hi
    rcases Nat.lt_or_eq_of_le hk with q | q
    · cases hpk : p k with
      | false =>
        refine Or.inl ⟨n - (k + 1), _, by omega, ⟨k + 1, by omega, rfl, rfl, fun j hj => ?_⟩, ?_⟩
        · by_cases e : j = k
          · rw [e]; exact hpk
          · exact hp j (by omega)
        · rw [hs k q hp, hpk, if_neg (by decide)]
      | true =>
        refine Or.inr ⟨.inl (), ?_, ?_⟩
        · rw [if_pos (anN_iff.mpr ⟨k, q, hpk⟩)]
        · rw [hs k q hp, hpk, if_pos rfl]
    · subst q
      exact Or.inr ⟨.inr (), by rw [anN_f.mpr hp, if_neg (by decide)], he⟩) FU n (nI (F 0), nI 0) (by exact hn) ⟨0, Nat.zero_le _, rfl, rfl, fun j h => absurd h (Nat.not_lt_zero _)⟩
  rw [h1, h2]
theorem isInV {m x : Nat} (hm : m ≤ 65536) (hx : x < 2 ^ 63) : pX12_isIn (lN x) (0 : Int64) ((nI m - (1 : Int32)).toInt64) = some (decide (x < m)) := by
  unfold pX12_isIn
  rw [if_neg (show ¬ lN x < (0 : Int64) from fun q => by have := (pk_lLT (b := 0) hx (by omega)).mp q; omega)]
  cases m with
  | zero =>
    rw [if_pos]
    · rfl
    · rw [Int64.lt_iff_toInt_lt, pk_lT hx]
      show (-1 : Int) < x
      omega
  | succ m =>
    rw [nI_pred, nI_l (by omega)]
    by_cases c : m < x
    · rw [if_pos ((pk_lLT (by omega) hx).mpr c), decide_eq_false (by omega)]
    · rw [if_neg (fun q => c ((pk_lLT (by omega) hx).mp q)), decide_eq_true (by omega)]
/-- the number in a row, if it is a CHANGE -/
def vN (V : Nat → Int64) (k : Nat) : Nat := (V k).toInt.toNat
def vIn (B : Nat → Nat) (V : Nat → Int64) (k : Nat) : Bool := decide (¬ V k < 0) && decide (vN V k < B 0)
theorem vN_of {V : Nat → Int64} {k x : Nat} (hx : x < 2 ^ 63) (h : V k = lN x) : vN V k = x := by
  unfold vN
  rw [h, pk_lT hx]; rfl
theorem r_numberOf {s : RS} {i k : Nat} (hi : i < 4) (hk : k < 60) : pX12_numberOf s (nI i) (nI k) = some (s.2.2.2 2 (60 * i + k)) := by
  unfold pX12_numberOf
  rw [show (60 : Int32) = nI 60 from rfl, pk_mul, nI_add, g_inT (by omega) (by omega), nI_clamp (by omega)]
theorem x_get {T : RS} {m k : Nat} (hT : T.1 2 = nI m) (hm : m ≤ 60) (hk : k < m) : pX9_get T (nI k) = some (T.2.2.2 0 k) := by
  unfold pX9_get
  rw [hT, if_neg (show ¬ nI k < 0 from nI_pos (by omega)), if_neg (nI_ge hk (by omega)), g_inT (by omega) (by omega), nI_clamp (by omega)]
section Q
variable {s r : RS} {B : Nat → Nat} {s0 s1 T : RS}
theorem q_order (hB : blk (s.2.2.1 4) 0 B) (hw : wfB B) (hR : bkR B r) (a0 a1 : Int32) (ht : ∀ i, i < 4 → a0 = nI i → trR s i T) : ∃ b s' s1', pX12_order s a0 a1 = some (b, s') ∧ oCh B s s' s1 s1' ∧ pX11_order s0 s1 r T a0 a1 = some (b, uI s0 11 (s'.1 0), s1') := by
  have h16 := hw.1
  have leaf : ∀ (w : Int32), pX12_order s a0 a1 = some (false, uI (uI (uI s 1 0) 0 0) 0 w) → pX11_order s0 s1 r T a0 a1 = some (false, uI s0 11 w, s1) → ∃ b s' s1', pX12_order s a0 a1 = some (b, s') ∧ oCh B s s' s1 s1' ∧ pX11_order s0 s1 r T a0 a1 = some (b, uI s0 11 (s'.1 0), s1') := fun w e1 e2 => ⟨false, _, s1, e1, Or.inl ⟨rq_3 _ _ _ _, rfl⟩, e2⟩
  have hb0 : (uI (uI s 1 (0 : Int32)) 0 (0 : Int32)).2.2.1 4 (0 : Int32).toNatClampNeg = nI (B 0) := hB.1 0 (by omega)
  rcases is_tray (uI (uI s 1 0) 0 0) a0 with ⟨i, hi, rfl, e1, e2, b1, b2⟩ | ⟨e1, e2, h⟩
  · rcases ht i hi rfl with ⟨m1, m2⟩ | ⟨so, m, p1, p2, p3, p4, p5, p6, p7⟩
    · refine leaf 3 ?_ ?_
      · unfold pX12_order
        simp only [thn_eq]
        rw [e1, ob_s, if_pos rfl, tr_in hi, nI_clamp (by omega), show (uI (uI s 1 (0 : Int32)) 0 (0 : Int32)).2.2.1 1 i = m1I from m1, if_neg (show ¬ (0 : Int32) ≤ m1I by decide)]; rfl
      · unfold pX11_order pX9_isMissing
        rw [e2, ob_s, if_pos rfl, tr_in hi, m2, if_pos (show m1I = (-1 : Int32) from rfl)]; rfl
    · have n1 : ¬ nI so = (-1 : Int32) := by rw [show (-1 : Int32) = m1I from rfl, m1_ne (by omega)]; exact not_false
      have e17 : (16 : Int64) = (nI 17 - (1 : Int32)).toInt64 := by decide +kernel
      have p4' : (uI (uI s 1 (0 : Int32)) 0 (0 : Int32)).2.2.1 1 i = nI m := p4
      rcases isInM a1 (m := 17) (by omega) with ⟨n, hn, rfl, e, g1, g2, g3⟩ | ⟨e, h⟩
      · have g4 : nI n ≤ (16 : Int32) := nI_le (b := 16) (by omega) (by omega)
        by_cases c1 : n ≤ m
        · -- the row is long enough
          have hsp : pX9_spans T (0 : Int32) (nI n) = some true := by
            rcases x_spans p6 p2 (0 : Int32) (n := n) (by omega) with ⟨a, ha, _, h⟩ | ⟨h, h2⟩
            · exact h
            · exfalso
              rcases h2 with h2 | ⟨a, ha1, ha2, ha3⟩
              · exact absurd h2 (by decide)
              · have : 0 = a := (nI_eq (a := 0) (by omega) ha1).mp ha3
                omega
          have hV : ∀ k, k < n → (uI (uI s 1 (0 : Int32)) 0 (0 : Int32)).2.2.2 2 (60 * i + k) = T.2.2.2 0 k := fun k hk => (p7 k (by omega)).symm
          generalize hVd : T.2.2.2 0 = V at *
          -- the first reading
          have once : ∀ k, k < n → (vIn B V k = true → ∃ x, x < B 0 ∧ V k = lN x ∧ vN V k = x) ∧ (vIn B V k = false → V k < 0 ∨ ∃ x, x < 2 ^ 63 ∧ B 0 ≤ x ∧ V k = lN x) := fun k _ => by
            unfold vIn
            by_cases c : V k < 0
            · refine ⟨fun q => ?_, fun _ => Or.inl c⟩
              rw [decide_eq_false (fun h => h c)] at q; cases q
            · obtain ⟨x, hx, ex⟩ := pk_lOf c
              have ev := vN_of hx ex
              rw [decide_eq_true c, Bool.true_and, ev]
              refine ⟨fun q => ⟨x, of_decide_eq_true q, ex, rfl⟩, fun q => Or.inr ⟨x, hx, ?_, ex⟩⟩
              have := of_decide_eq_false q
              omega
          have opl : ∀ k, (∀ j, j < k → vIn B V j = true) → opf (vN V) k < 2 ^ B 0 := by
            intro k
            induction k with
            | zero => intro _; exact Nat.two_pow_pos _
            | succ k ih =>
              intro h
              have hk := h k (by omega)
              refine or_lt (ih (fun j hj => h j (by omega))) (p2_lt ?_)
              unfold vIn at hk
              exact of_decide_eq_true (Bool.and_eq_true_iff.mp hk).2
          have p16 : 2 ^ B 0 ≤ 2 ^ 16 := Nat.pow_le_pow_right (by decide) h16
          have bodyR : ∀ k, k < n → (∀ j, j < k → (!vIn B V j || (opf (vN V) j).testBit (vN V j)) = false) → X12_order_b78 (nI i) (nI n) (nI (opf (vN V) k)) (nI k) (uI (uI s 1 0) 0 0) = if (!vIn B V k || (opf (vN V) k).testBit (vN V k)) then some (.inr (.inl ())) else some (.inl (nI (opf (vN V) (k + 1)), nI (k + 1))) := by
            intro k hk hp
            have ol := opl k (fun j hj => by
              have := hp j hj
              obtain ⟨q1, _⟩ := Bool.or_eq_false_iff.mp this
              simpa using q1)
            unfold X12_order_b78
            rw [if_neg (nI_ge hk (by omega)), r_numberOf hi (by omega), ob_s, hV k hk, g_in0 _ (by omega) (by omega), hb0]
            cases c : vIn B V k with
            | true =>
              obtain ⟨x, hx, ex, ev⟩ := (once k hk).1 c
              rw [ex, isInV (by omega) (by omega), decide_eq_true hx, ob_s, if_pos rfl, ob_s, lN_i, hasT (by omega) (by omega), ob_s, ob_s, ev]
              have hu : opf (vN V) (k + 1) = opf (vN V) k ||| 2 ^ x := by rw [← ev]; rfl
              cases d : (opf (vN V) k).testBit x with
              | true => rfl
              | false =>
                rw [if_neg (by decide), lN_i, show (1 : Int32) <<< (nI x &&& 31) = nI (2 ^ x) from s1I (by omega), orI, thn_eq, thn_eq, nI_1, hu]; rfl
            | false =>
              rcases (once k hk).2 c with q | ⟨x, hx, hx2, ex⟩
              · unfold pX12_isIn
                rw [if_pos q]; rfl
              · rw [ex, isInV (by omega) (by omega), decide_eq_false (by omega)]; rfl
          have bodyC : ∀ k, k < n → (∀ j, j < k → (!vIn B V j || (opf (vN V) j).testBit (vN V j)) = false) → X11_areChangesOnce_b5 (nI n) (nI (opf (vN V) k)) (nI k) s0 s1 r T = if (!vIn B V k || (opf (vN V) k).testBit (vN V k)) then some (.inr (.inl ())) else some (.inl (nI (opf (vN V) (k + 1)), nI (k + 1))) := by
            intro k hk hp
            have ol := opl k (fun j hj => by
              have := hp j hj
              obtain ⟨q1, _⟩ := Bool.or_eq_false_iff.mp this
              simpa using q1)
            unfold X11_areChangesOnce_b5
            rw [if_neg (nI_ge hk (by omega)), x_get p6 p2 (by omega), ob_s, hVd, hR.2.1, nI_l (by omega)]
            cases c : vIn B V k with
            | true =>
              obtain ⟨x, hx, ex, ev⟩ := (once k hk).1 c
              rw [ex, if_neg (show ¬ lN x < (0 : Int64) from fun q => by have := (pk_lLT (b := 0) (by omega) (by omega)).mp q; omega), if_neg (fun q => by have := (pk_lLE (by omega) (by omega)).mp q; omega), lN_i, isInT (by omega) (by omega), ob_s, ev]
              have hu : opf (vN V) (k + 1) = opf (vN V) k ||| 2 ^ x := by rw [← ev]; rfl
              cases d : (opf (vN V) k).testBit x with
              | true => rfl
              | false =>
                rw [if_neg (by decide), show (1 : Int32) <<< (nI x &&& 31) = nI (2 ^ x) from s1I (by omega), orI, thn_eq, thn_eq, nI_1, hu]; rfl
            | false =>
              rcases (once k hk).2 c with q | ⟨x, hx, hx2, ex⟩
              · rw [if_pos q]; rfl
              · rw [ex]
                by_cases q : lN x < (0 : Int64)
                · rw [if_pos q]; rfl
                · rw [if_neg q, if_pos ((pk_lLE (by omega) (by omega)).mpr hx2)]; rfl
          have lp1 : a_loop (fun (q : Int32 × Int32) => X12_order_b78 (nI i) (nI n) q.1 q.2 (uI (uI s 1 0) 0 0)) FU ((0 : Int32), (0 : Int32)) = some (if anN (fun k => !vIn B V k || (opf (vN V) k).testBit (vN V k)) n then .inl () else .inr ()) := lp_anyA (opf (vN V)) (fun k => !vIn B V k || (opf (vN V) k).testBit (vN V k)) n (by omega) bodyR (by
            unfold X12_order_b78
            rw [if_pos (nI_le (Nat.le_refl _) (by omega))])
          have lc1 : pX11_areChangesOnce s0 s1 r T (nI n) = some (!anN (fun k => !vIn B V k || (opf (vN V) k).testBit (vN V k)) n) := by
            unfold pX11_areChangesOnce
            refine bd (lp_anyA (opf (vN V)) (fun k => !vIn B V k || (opf (vN V) k).testBit (vN V k)) n (by omega) bodyC (by
              unfold X11_areChangesOnce_b5
              rw [if_pos (nI_le (Nat.le_refl _) (by omega))])) ?_
            cases anN (fun k => !vIn B V k || (opf (vN V) k).testBit (vN V k)) n <;> rfl
          have start : pX12_order s (nI i) (nI n) = (a_loop (fun (q : Int32 × Int32) => X12_order_b78 (nI i) (nI n) q.1 q.2 (uI (uI s 1 0) 0 0)) FU ((0 : Int32), (0 : Int32))).bind (Sum.elim (fun (t12 : Unit) => X12_order_j122 (uI (uI s 1 0) 0 0)) (fun (t14 : Unit) => (a_loop (fun (q : Int32 × Int32) => X12_order_b153 (nI i) (nI n) q.1 q.2 (uI (uI s 1 0) 0 0)) FU ((0 : Int32), (0 : Int32))).bind (Sum.elim (fun (t19 : Unit) => (pX12_no (uI (uI s 1 0) 0 0) (9 : Int32)).bind fun x20 => some (x20.1, x20.2)) (fun (t21 : Unit) => (a_loop (fun (q : Int32 × RS) => X12_order_b209 (nI i) (nI n) q.1 q.2) FU ((0 : Int32), uI (uI s 1 0) 0 0)).bind fun (t25 : RS) => g_in (118 : Int32) 1800 (thn (uA t25 4 (upd (t25.2.2.1 4) (118 : Int32).toNatClampNeg (nI n))) fun s26 => some (true, s26)))))) := by
            unfold pX12_order
            rw [thn_eq, thn_eq, e1, ob_s, if_pos rfl, tr_in hi, nI_clamp (by omega), p4', if_pos (show (0 : Int32) ≤ nI m from nI_pos' (by omega)), e17, e, ob_s, if_pos rfl, tr_in hi, if_pos (nI_le c1 (by omega))]
          have startC : pX11_order s0 s1 r T (nI i) (nI n) = (pX11_areChangesOnce s0 s1 r T (nI n)).bind fun x5 => if x5 = true then g_in (nI i) 4 ((pX11_holdsInRow s0 s1 r T (nI n)).bind fun x6 => if x6 = true then (a_loop (fun (q : Int32 × RS) => X11_order_b110 (nI i) (nI n) q.1 s0 q.2 r T) FU ((0 : Int32), s1)).bind fun (t10 : RS) => thn (uI t10 4 (nI n)) fun s_11 => (pX11_grant s0).bind fun x12 => some (x12.1, x12.2, s_11) else (pX11_deny s0 (9 : Int32)).bind fun x13 => some (x13.1, x13.2, s1)) else (pX11_deny s0 (5 : Int32)).bind fun x14 => some (x14.1, x14.2, s1) := by
            unfold pX11_order pX9_isMissing
            rw [e2, ob_s, if_pos rfl, tr_in hi, p5, if_neg n1, ob_s, if_neg (by decide), if_neg g1, if_pos g4, tr_in hi, hsp, ob_s, if_pos rfl, tr_in hi]
          cases a : anN (fun k => !vIn B V k || (opf (vN V) k).testBit (vN V k)) n with
          | true =>
            rw [a] at lp1 lc1
            refine leaf 5 ?_ ?_
            · rw [start, lp1]; rfl
            · rw [startC, lc1]; rfl
          | false =>
            rw [a] at lp1 lc1
            have good : ∀ k, k < n → vIn B V k = true ∧ (opf (vN V) k).testBit (vN V k) = false := fun k hk => by
              have := anN_f.mp a k hk
              obtain ⟨q1, q2⟩ := Bool.or_eq_false_iff.mp this
              exact ⟨by simpa using q1, q2⟩
            have val : ∀ k, k < n → vN V k < B 0 ∧ V k = lN (vN V k) := fun k hk => by
              obtain ⟨x, hx, ex, ev⟩ := (once k hk).1 (good k hk).1
              rw [ev]; exact ⟨hx, ex⟩
            have lp2 : a_loop (fun (q : Int32 × Int32) => X12_order_b153 (nI i) (nI n) q.1 q.2 (uI (uI s 1 0) 0 0)) FU ((0 : Int32), (0 : Int32)) = some (if anN (fun k => !(bdf (B (98 + vN V k)) (opf (vN V) k) == 0)) n then .inl () else .inr ()) := by
              refine lp_anyA (opf (vN V)) (fun k => !(bdf (B (98 + vN V k)) (opf (vN V) k) == 0)) n (by omega) (fun k hk _ => ?_) ?_
              · obtain ⟨v1, v2⟩ := val k hk
                have v3 := hB.2 (98 + vN V k)
                have v4 : bdf (B (98 + vN V k)) (opf (vN V) k) < 65536 := bdf_lt (n := 16) v3
                dsimp only [X12_order_b153]
                rw [if_neg (nI_ge hk (by omega)), r_numberOf hi (by omega), ob_s, hV k hk, v2, lN_i]
                rw [r_hangsOn (s := uI (uI s 1 0) 0 0) hB (by omega), ob_s, show (-1 : Int32) = m1I from rfl, dfI, show (0 : Int32) = nI 0 from rfl, ifE (by omega) (by omega), show (1 : Int32) <<< (nI (vN V k) &&& 31) = nI (2 ^ vN V k) from s1I (by omega), orI, thn_eq, thn_eq, nI_1]
                by_cases c : bdf (B (98 + vN V k)) (opf (vN V) k) = 0
                · rw [if_pos c, if_neg (by rw [c]; decide)]; rfl
                · rw [if_neg c, if_pos (by simpa using c)]
              · dsimp only [X12_order_b153]
                rw [if_pos (nI_le (Nat.le_refl _) (by omega))]
            have lc2 : pX11_holdsInRow s0 s1 r T (nI n) = some (!anN (fun k => !(bdf (B (98 + vN V k)) (opf (vN V) k) == 0)) n) := by
              unfold pX11_holdsInRow
              refine bd (lp_anyA (opf (vN V)) (fun k => !(bdf (B (98 + vN V k)) (opf (vN V) k) == 0)) n (by omega) (fun k hk _ => ?_) ?_) ?_
              · obtain ⟨v1, v2⟩ := val k hk
                have v3 := hB.2 (98 + vN V k)
                have v4 : bdf (B (98 + vN V k)) (opf (vN V) k) < 65536 := bdf_lt (n := 16) v3
                dsimp only [X11_holdsInRow_b5]
                rw [if_neg (nI_ge hk (by omega)), x_get p6 p2 (by omega), ob_s, hVd, v2, lN_i, x_isChange hR hw (by omega), decide_eq_true v1, ob_s, if_pos rfl, g_inT (by omega) (by omega), nI_clamp (by omega), (hR.2.2.2 _ v1).2.2.2.2.2.2.1, show (-1 : Int32) = m1I from rfl, dfI, show (0 : Int32) = nI 0 from rfl, ifE (by omega) (by omega), show (1 : Int32) <<< (nI (vN V k) &&& 31) = nI (2 ^ vN V k) from s1I (by omega), orI, thn_eq, thn_eq, nI_1]
                by_cases c : bdf (B (98 + vN V k)) (opf (vN V) k) = 0
                · rw [if_pos c, if_neg (by rw [c]; decide)]; rfl
                · rw [if_neg c, if_pos (by simpa using c)]
              · dsimp only [X11_holdsInRow_b5]
                rw [if_pos (nI_le (Nat.le_refl _) (by omega))]
              · cases anN (fun k => !(bdf (B (98 + vN V k)) (opf (vN V) k) == 0)) n <;> rfl
            cases a2 : anN (fun k => !(bdf (B (98 + vN V k)) (opf (vN V) k) == 0)) n with
            | true =>
              rw [a2] at lp2 lc2
              refine leaf 9 ?_ ?_
              · rw [start, lp1, ob_s, if_neg (by decide), se_r, lp2]; rfl
              · rw [startC, lc1, ob_s, if_pos (by decide), tr_in hi, lc2]; rfl
            | false =>
              rw [a2] at lp2 lc2
              have hO : orW B n (vN V) := ⟨by omega, fun k hk => ⟨(val k hk).1, (good k hk).2, by
                have := anN_f.mp a2 k hk
                simpa using this⟩⟩
              obtain ⟨S', r1, r2, r3⟩ := lp_m (body := fun (q : Int32 × RS) => X12_order_b209 (nI i) (nI n) q.1 q.2) (I := fun d q => ∃ k S', k ≤ n ∧ d = n - k ∧ q = (nI k, S') ∧ sx 4 (uI (uI s 1 0) 0 0) S' ∧ ∀ j, S'.2.2.1 4 j = if 119 ≤ j ∧ j < 119 + k then nI (vN V (j - 119)) else s.2.2.1 4 j) (P := fun S' => sx 4 (uI (uI s 1 0) 0 0) S' ∧ ∀ j, S'.2.2.1 4 j = if 119 ≤ j ∧ j < 119 + n then nI (vN V (j - 119)) else s.2.2.1 4 j) (fun d q hd => by
                obtain ⟨k, S', hk, rfl, rfl, hs, hj⟩ := hd
                dsimp only [X12_order_b209]
                rcases Nat.lt_or_eq_of_le hk with c | c
                · left
                  refine ⟨n - (k + 1), (nI (k + 1), uA S' 4 (upd (S'.2.2.1 4) (119 + k) (nI (vN V k)))), by omega, ⟨k + 1, _, by omega, rfl, rfl, sx_tr hs (sx_uA _ _ _), fun j => ?_⟩, ?_⟩
                  · rw [uA_at]
                    by_cases e : j = 119 + k
                    · rw [e, upd_at, if_pos (by omega), show 119 + k - 119 = k by omega]
                    · rw [upd_ne _ _ e, hj j]
                      by_cases q : 119 ≤ j ∧ j < 119 + k
                      · rw [if_pos q, if_pos (by omega)]
                      · rw [if_neg q, if_neg (by omega)]
                  · have hv : S'.2.2.2 2 (60 * i + k) = V k := by rw [hs.2.2.1]; exact hV k c
                    rw [if_neg (nI_ge c (by omega)), r_numberOf hi (by omega), ob_s, hv, (val k c).2, lN_i, show (119 : Int32) = nI 119 from rfl, nI_add, g_inT (by omega) (by omega), nI_clamp (by omega), thn_eq, thn_eq, nI_1]
                · subst c
                  exact Or.inr ⟨S', ⟨hs, hj⟩, by rw [if_pos (nI_le (Nat.le_refl _) (by omega))]⟩) FU n (nI 0, uI (uI s 1 0) 0 0) (by show n < 100000; omega) ⟨0, _, Nat.zero_le _, rfl, rfl, sx_rf _ _, fun j => by rw [if_neg (by omega)]; rfl⟩
              obtain ⟨s1', c1', c2', c3'⟩ := lp_m (body := fun (q : Int32 × RS) => X11_order_b110 (nI i) (nI n) q.1 s0 q.2 r T) (I := fun d q => ∃ k s1', k ≤ n ∧ d = n - k ∧ q = (nI k, s1') ∧ sx 3 s1 s1' ∧ ∀ j, j < k → s1'.2.2.1 3 j = nI (vN V j)) (P := fun s1' => sx 3 s1 s1' ∧ ∀ j, j < n → s1'.2.2.1 3 j = nI (vN V j)) (fun d q hd => by
                obtain ⟨k, S', hk, rfl, rfl, hs, hj⟩ := hd
                dsimp only [X11_order_b110]
                rcases Nat.lt_or_eq_of_le hk with c | c
                · left
                  refine ⟨n - (k + 1), (nI (k + 1), uA S' 3 (upd (S'.2.2.1 3) k (nI (vN V k)))), by omega, ⟨k + 1, _, by omega, rfl, rfl, sx_tr hs (sx_uA _ _ _), fun j hj2 => ?_⟩, ?_⟩
                  · rw [uA_at]
                    by_cases e : j = k
                    · rw [e, upd_at]
                    · rw [upd_ne _ _ e]; exact hj j (by omega)
                  · rw [if_neg (nI_ge c (by omega)), tr_in hi, x_get p6 p2 (by omega), ob_s, hVd, (val k c).2, lN_i, g_inT (by omega) (by omega), nI_clamp (by omega), thn_eq, thn_eq, nI_1]
                · subst c
                  exact Or.inr ⟨S', ⟨hs, hj⟩, by rw [if_pos (nI_le (Nat.le_refl _) (by omega))]⟩) FU n (nI 0, s1) (by show n < 100000; omega) ⟨0, _, Nat.zero_le _, rfl, rfl, sx_rf _ _, fun j h => absurd h (Nat.not_lt_zero _)⟩
              refine ⟨true, uA S' 4 (upd (S'.2.2.1 4) 118 (nI n)), uI s1' 4 (nI n), ?_, Or.inr ⟨rs4_sx (rs4_sx (rs4_of (rq_2 s 0 0)) r2) (sx_uA _ _ _), fun j hj => ?_, ?_, n, vN V, ⟨?_, fun k hk => ?_⟩, ⟨rfl, c3'⟩, hO⟩, ?_⟩
              · rw [start, lp1, ob_s, if_neg (by decide), se_r, lp2, ob_s, if_neg (by decide), se_r]
                refine bd r1 ?_
                rw [g118, thn_eq]; rfl
              · rw [uA_at, upd_ne _ _ (by omega), r3, if_neg (by omega)]
              · show s1'.2.2.1 2 = _
                exact c2'.2.2.2 2 (by decide)
              · rw [uA_at, upd_at]
              · rw [uA_at, upd_ne _ _ (by omega), r3, if_pos (by omega), show 119 + k - 119 = k by omega]
              · rw [startC, lc1, ob_s, if_pos (by decide), tr_in hi, lc2, ob_s, if_pos (by decide)]
                refine bd c1' ?_
                rw [thn_eq, show (uA S' 4 (upd (S'.2.2.1 4) 118 (nI n))).1 0 = 0 from (by show S'.1 0 = 0; rw [r2.1]; rfl)]; rfl
        · -- too short
          have hsp : pX9_spans T (0 : Int32) (nI n) = some false := by
            rcases x_spans p6 p2 (0 : Int32) (n := n) (by omega) with ⟨a, ha, _, h⟩ | ⟨h, h2⟩
            · omega
            · exact h
          refine leaf 4 ?_ ?_
          · unfold pX12_order
            rw [thn_eq, thn_eq, e1, ob_s, if_pos rfl, tr_in hi, nI_clamp (by omega), p4', if_pos (show (0 : Int32) ≤ nI m from nI_pos' (by omega)), e17, e, ob_s, if_pos rfl, tr_in hi, if_neg (nI_ge (by omega) (by omega))]; rfl
          · unfold pX11_order pX9_isMissing
            rw [e2, ob_s, if_pos rfl, tr_in hi, p5, if_neg n1, ob_s, if_neg (by decide), if_neg g1, if_pos g4, tr_in hi, hsp]; rfl
      · refine leaf 5 ?_ ?_
        · unfold pX12_order
          rw [thn_eq, thn_eq, e1, ob_s, if_pos rfl, tr_in hi, nI_clamp (by omega), p4', if_pos (show (0 : Int32) ≤ nI m from nI_pos' (by omega)), e17, e]; rfl
        · unfold pX11_order pX9_isMissing X11_order_j41
          rw [e2, ob_s, if_pos rfl, tr_in hi, p5, if_neg n1, ob_s, if_neg (by decide)]
          rcases h with h | ⟨h1, h2, h3⟩
          · rw [if_pos h]; rfl
          · rw [if_neg h1, if_neg (show ¬ a1 ≤ (16 : Int32) from fun q => by
              rw [Int32.le_iff_toInt_le] at q h2
              have e5 : (nI 17).toInt = 17 := rfl
              have e6 : (16 : Int32).toInt = 16 := rfl
              omega)]; rfl
  · refine leaf 1 ?_ ?_
    · unfold pX12_order
      simp only [thn_eq]
      rw [e1]; rfl
    · unfold pX11_order
      rw [e2]; rfl
end Q
