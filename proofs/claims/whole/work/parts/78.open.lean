/-! OPENED -/
def fdO (B : Nat → Nat) (V : Nat → Int64) (lp i : Nat) : Nat := fsN (fun c => decide (lp ≤ c) && decide (V i = lN (slN B c))) (B 0)
def rfO (B : Nat → Nat) (V : Nat → Int64) (many : Nat) : Nat → Option (Nat × Nat × Nat)
  | 0 => some (0, 0, 1 + many)
  | i + 1 => match rfO B V many i with
    | none => none
    | some p => if fdO B V p.1 i < B 0 then some (fdO B V p.1 i + 1, p.2.1 ||| 2 ^ fdO B V p.1 i, p.2.2 + slN B (fdO B V p.1 i)) else none
theorem rfO_s {B : Nat → Nat} {V : Nat → Int64} {many i : Nat} {p : Nat × Nat × Nat} (h : rfO B V many i = some p) : rfO B V many (i + 1) = if fdO B V p.1 i < B 0 then some (fdO B V p.1 i + 1, p.2.1 ||| 2 ^ fdO B V p.1 i, p.2.2 + slN B (fdO B V p.1 i)) else none := by
  show (match rfO B V many i with | none => none | some p => _) = _
  rw [h]
theorem rfO_n {B : Nat → Nat} {V : Nat → Int64} {many i : Nat} (h : rfO B V many i = none) : ∀ d, rfO B V many (i + d) = none
  | 0 => h
  | d + 1 => by
    show (match rfO B V many (i + d) with | none => none | some p => _) = _
    rw [rfO_n h d]
theorem sl_k {B : Nat → Nat} (hw : wfB B) {c : Nat} (hc : c < B 0) : slN B c / 5 = c ∧ slN B c % 5 = B (2 + c) ∧ slN B c < 80 := by
  have h16 := hw.1
  have := (hw.2.2 c hc).1
  unfold slN; omega
theorem rfO_ok {B : Nat → Nat} (hw : wfB B) {V : Nat → Int64} {many : Nat} : ∀ (i : Nat) (p : Nat × Nat × Nat), rfO B V many i = some p → p.1 ≤ B 0 ∧ p.2.1 < 2 ^ B 0 ∧ p.2.2 ≤ 1 + many + i * 80
  | 0, p, h => by cases h; exact ⟨Nat.zero_le _, Nat.two_pow_pos _, by show 1 + many ≤ _; omega⟩
  | i + 1, p, h => by
    cases e : rfO B V many i with
    | none =>
      have := rfO_n e 1
      rw [h] at this; cases this
    | some q =>
      rw [rfO_s e] at h
      obtain ⟨h1, h2, h3⟩ := rfO_ok hw i q e
      by_cases c : fdO B V q.1 i < B 0
      · rw [if_pos c] at h
        cases h
        have := (sl_k hw c).2.2
        exact ⟨by omega, or_lt h2 (p2_lt c), by dsimp only; omega⟩
      · rw [if_neg c] at h; cases h
theorem fdO_yes {B : Nat → Nat} {V : Nat → Int64} {lp i : Nat} (h : fdO B V lp i < B 0) : lp ≤ fdO B V lp i ∧ V i = lN (slN B (fdO B V lp i)) := by
  have := fsN_yes _ _ h
  obtain ⟨h1, h2⟩ := Bool.and_eq_true_iff.mp this
  exact ⟨of_decide_eq_true h1, of_decide_eq_true h2⟩
theorem fdO_eq {B : Nat → Nat} (hw : wfB B) {V : Nat → Int64} {lp i c : Nat} (hc : c < B 0) (h1 : lp ≤ c) (h2 : V i = lN (slN B c)) : fdO B V lp i = c := by
  refine fsN_eq (by omega) (fun j hj => ?_) (Or.inr ?_)
  · rw [h2]
    have a := sl_k hw hc
    have b := sl_k hw (show j < B 0 by omega)
    have : ¬ lN (slN B c) = lN (slN B j) := fun q => by
      have := (pk_lEQ (by omega) (by omega)).mp q
      omega
    rw [decide_eq_false this, Bool.and_false]
  · rw [decide_eq_true h1, decide_eq_true h2]; rfl
section Q
variable {s r : RS} {B : Nat → Nat} {s0 s1 T : RS}
theorem r_open_b (hB : blk (s.2.2.1 4) 0 B) (hw : wfB B) {i0 many i st lp sm : Nat} {V : Nat → Int64} (hi0 : i0 < 4) (hm : many ≤ 16) (hi : i < many) (hV : s.2.2.2 2 (60 * i0 + (2 + i)) = V i) (hlp : lp ≤ B 0) : (fdO B V lp i < B 0 ∧ X12_open_b130 (nI i0) (nI many) (nI st) (dnI lp) (lN sm) (nI i) s = some (.inl (nI (st ||| 2 ^ fdO B V lp i), nI (fdO B V lp i), lN (sm + slN B (fdO B V lp i)), nI (i + 1)))) ∨ (¬ fdO B V lp i < B 0 ∧ (X12_open_b130 (nI i0) (nI many) (nI st) (dnI lp) (lN sm) (nI i) s = some (.inr (.inl ())) ∨ X12_open_b130 (nI i0) (nI many) (nI st) (dnI lp) (lN sm) (nI i) s = some (.inr (.inr (.inl ()))))) := by
  have h16 := hw.1
  have hb0 : s.2.2.1 4 (0 : Int32).toNatClampNeg = nI (B 0) := hB.1 0 (by omega)
  have e80 : (79 : Int64) = (nI 80 - (1 : Int32)).toInt64 := by decide +kernel
  have e2 : (2 : Int32) + nI i = nI (2 + i) := nI_add 2 i
  unfold X12_open_b130
  rw [if_neg (nI_ge hi (by omega)), e2, r_numberOf hi0 (by omega), ob_s, hV, e80]
  have no : ∀ c, c < B 0 → lp ≤ c → V i = lN (slN B c) → fdO B V lp i < B 0 := fun c hc h1 h2 => by rw [fdO_eq hw hc h1 h2]; exact hc
  by_cases c0 : V i < 0
  · right
    refine ⟨fun q => ?_, Or.inl ?_⟩
    · have := (fdO_yes q).2
      have a := (sl_k hw q).2.2
      rw [this] at c0
      have := (pk_lLT (b := 0) (by omega) (by omega)).mp c0
      omega
    · unfold pX12_isIn
      rw [if_pos c0]; rfl
  · obtain ⟨x, hx, ex⟩ := pk_lOf c0
    rw [ex, isInV (by omega) hx]
    by_cases c1 : x < 80
    · rw [decide_eq_true c1, ob_s, if_pos rfl, thn_eq, lN_i, show (5 : Int32) = nI 5 from rfl, pk_div (by omega) (by omega) (by omega)]
      have hle : (nI (x / 5) ≤ dnI lp) ↔ x / 5 < lp := by
        cases lp with
        | zero =>
          show nI (x / 5) ≤ m1I ↔ _
          rw [m1_nle (by omega)]
          exact ⟨fun q => q.elim, fun q => absurd q (Nat.not_lt_zero _)⟩
        | succ m =>
          show nI (x / 5) ≤ nI m ↔ _
          rw [nI_leI (by omega) (by omega)]
          omega
      by_cases c2 : x / 5 < lp
      · right
        refine ⟨fun q => ?_, Or.inr ?_⟩
        · obtain ⟨g1, g2⟩ := fdO_yes q
          have a := sl_k hw q
          rw [ex] at g2
          have := (pk_lEQ (by omega) (by omega)).mp g2
          rw [this] at c2
          omega
        · rw [if_pos (hle.mpr c2)]
      · rw [if_neg (fun q => c2 (hle.mp q))]
        have hic : pX12_isChange s (nI (x / 5)) = some (decide (x / 5 < B 0)) := by
          unfold pX12_isChange
          rw [g_in0 _ (by omega) (by omega), hb0]
          rcases isInM (nI (x / 5)) (m := B 0) (by omega) with ⟨t, h1, h2, h3, _⟩ | ⟨h3, h⟩
          · have : x / 5 = t := (nI_eq (by omega) (by omega)).mp h2
            rw [h3, this, decide_eq_true h1]; rfl
          · rw [h3]
            have : ¬ x / 5 < B 0 := fun q => ne_out h q (by omega) rfl
            rw [decide_eq_false this]; rfl
        rw [hic, ob_s]
        by_cases c3 : x / 5 < B 0
        · have k4 := (hw.2.2 (x / 5) c3).1
          rw [decide_eq_true c3, if_pos rfl, r_kind hB (by omega), ob_s, nI_l (by omega), show (5 : Int64) = lN 5 from rfl, pk_lRem (by omega) (by omega) (by omega)]
          by_cases c4 : B (2 + x / 5) = x % 5
          · left
            have hs : x = slN B (x / 5) := by unfold slN; omega
            have hf : fdO B V lp i = x / 5 := fdO_eq hw c3 (by omega) (by rw [ex, ← hs])
            rw [hf]
            refine ⟨c3, ?_⟩
            rw [if_pos (by rw [c4]), show (1 : Int32) <<< (nI (x / 5) &&& 31) = nI (2 ^ (x / 5)) from s1I (by omega), orI, thn_eq, thn_eq, thn_eq, lN_add, nI_1, ← hs]
          · right
            refine ⟨fun q => ?_, Or.inr ?_⟩
            · obtain ⟨g1, g2⟩ := fdO_yes q
              have a := sl_k hw q
              rw [ex] at g2
              have := (pk_lEQ (by omega) (by omega)).mp g2
              apply c4
              rw [this, a.1, a.2.1]
            · rw [if_neg (fun q => c4 ((lN_eq (by omega) (by omega)).mp q))]
        · right
          refine ⟨fun q => ?_, Or.inr ?_⟩
          · obtain ⟨g1, g2⟩ := fdO_yes q
            have a := sl_k hw q
            rw [ex] at g2
            have := (pk_lEQ (by omega) (by omega)).mp g2
            rw [this, a.1] at c3
            exact c3 q
          · rw [decide_eq_false c3]; rfl
    · right
      refine ⟨fun q => ?_, Or.inl ?_⟩
      · obtain ⟨g1, g2⟩ := fdO_yes q
        have a := sl_k hw q
        rw [ex] at g2
        have := (pk_lEQ (by omega) (by omega)).mp g2
        omega
      · rw [decide_eq_false c1]; rfl
theorem q_open (hB : blk (s.2.2.1 4) 0 B) (hw : wfB B) (hR : bkR B r) (a0 : Int32) (ht : ∀ i, i < 4 → a0 = nI i → trR s i T) : qq s s0 (pX12_open s a0) (pX11_open s0 s1 r T a0) := by
  have h16 := hw.1
  have p16 : 2 ^ B 0 ≤ 2 ^ 16 := Nat.pow_le_pow_right (by decide) h16
  have leaf : ∀ (w : Int32) (R X : Option (Int32 × RS)), R = some ((-1 : Int32), uI (uI (uI s 1 0) 0 0) 0 w) → X = some ((-1 : Int32), uI s0 11 w) → qq s s0 R X := fun w R X e1 e2 => ⟨_, _, e1, rq_3 _ _ _ _, e2⟩
  unfold pX12_open pX11_open X12_open_j84 X12_open_j208 X12_open_j269
  simp only [thn_eq]
  rcases is_tray (uI (uI s 1 0) 0 0) a0 with ⟨i, hi, rfl, e1, e2, b1, b2⟩ | ⟨e1, e2, h⟩
  · rw [e1, e2, ob_s, ob_s, if_pos rfl, if_pos rfl]
    simp only [tr_in hi]
    rw [nI_clamp (by omega)]
    have f1 : (uI (uI s 1 (0 : Int32)) 0 (0 : Int32)).2.2.1 1 = s.2.2.1 1 := rfl
    rw [f1]
    unfold pX9_isMissing
    rcases ht i hi rfl with ⟨m1, m2⟩ | ⟨so, m, p1, p2, p3, p4, p5, p6, p7⟩
    · refine leaf 3 _ _ ?_ ?_
      · rw [m1, if_neg (show ¬ (0 : Int32) ≤ m1I by decide)]; rfl
      · rw [m2, if_pos (show m1I = (-1 : Int32) from rfl)]; rfl
    · have n1 : ¬ nI so = (-1 : Int32) := by rw [show (-1 : Int32) = m1I from rfl, m1_ne (by omega)]; exact not_false
      have spn : ∀ n, n < 2 ^ 31 → pX9_spans T (0 : Int32) (nI n) = some (decide (n ≤ m)) := fun n hn => by
        rcases x_spans p6 p2 (0 : Int32) hn with ⟨a, ha, _, h⟩ | ⟨h, h2⟩
        · rw [h, decide_eq_true (by omega)]
        · rw [h, decide_eq_false]
          rcases h2 with h2 | ⟨a, ha1, ha2, ha3⟩
          · exact absurd h2 (by decide)
          · have : 0 = a := (nI_eq (a := 0) (by omega) ha1).mp ha3
            omega
      have sp3 : pX9_spans T (0 : Int32) (3 : Int32) = some (decide (3 ≤ m)) := spn 3 (by omega)
      rw [p4, p5, if_pos (show (0 : Int32) ≤ nI m from nI_pos' (by omega)), if_neg n1, ob_s, if_neg (show ¬ (false = true) by decide), sp3, ob_s, show (3 : Int32) = nI 3 from rfl, ifLe (by omega) (by omega)]
      by_cases c1 : 3 ≤ m
      · have r1 : pX12_numberOf (uI (uI s 1 0) 0 0) (nI i) (1 : Int32) = some (T.2.2.2 0 1) := by
          rw [show (1 : Int32) = nI 1 from rfl, r_numberOf hi (by omega), p7 1 (by omega)]; rfl
        have r0 : pX12_numberOf (uI (uI s 1 0) 0 0) (nI i) (0 : Int32) = some (T.2.2.2 0 0) := by
          rw [show (0 : Int32) = nI 0 from rfl, r_numberOf hi (by omega), p7 0 (by omega)]; rfl
        have x1 : pX9_get T (1 : Int32) = some (T.2.2.2 0 1) := x_get (k := 1) p6 p2 (by omega)
        have x0 : pX9_get T (0 : Int32) = some (T.2.2.2 0 0) := x_get (k := 0) p6 p2 (by omega)
        unfold pX11_sealedCount
        rw [if_pos c1, decide_eq_true c1, if_pos rfl, r1, r0, x1, x0, ob_s, ob_s, ob_s, ob_s]
        by_cases c2 : T.2.2.2 0 0 = (1 : Int64)
        · rw [if_pos c2, if_pos c2]
          have e17 : (16 : Int64) = (nI 17 - (1 : Int32)).toInt64 := by decide +kernel
          by_cases c3 : T.2.2.2 0 1 < (0 : Int64)
          · refine leaf 9 _ _ ?_ ?_
            · unfold pX12_isIn
              rw [if_pos c3]; rfl
            · rw [if_pos c3]; rfl
          · obtain ⟨many, hmm, em⟩ := pk_lOf c3
            rw [if_neg c3, em]
            by_cases c4 : many < 17
            · have c4' : ¬ (16 : Int64) < lN many := fun q => by
                have := (pk_lLT (a := 16) (by omega) (by omega)).mp q
                omega
              have n4 : ¬ nI many = (-1 : Int32) := by rw [show (-1 : Int32) = m1I from rfl, m1_ne (by omega)]; exact not_false
              rw [if_neg c4', e17, isInV (by omega) hmm, decide_eq_true c4, ob_s, if_pos rfl, lN_i, ob_s, if_neg n4, nI_add, spn (many + 3) (by omega), ob_s, ifLe (by omega) (by omega)]
              by_cases c5 : many + 3 ≤ m
              · rw [if_pos c5, decide_eq_true c5, if_pos rfl, nI_l (by omega), show (1 : Int64) + lN many = lN (1 + many) from lN_add 1 _]
                -- the row
                have hV : ∀ k, k < many → (uI (uI s 1 (0 : Int32)) 0 (0 : Int32)).2.2.2 2 (60 * i + (2 + k)) = (fun k => T.2.2.2 0 (2 + k)) k := fun k hk => (p7 (2 + k) (by omega)).symm
                generalize hVd : (fun k => T.2.2.2 0 (2 + k)) = V at *
                have ref : (∃ p, rfO B V many many = some p ∧ a_loop (fun (q : Int32 × Int32 × Int64 × Int32) => X12_open_b130 (nI i) (nI many) q.1 q.2.1 q.2.2.1 q.2.2.2 (uI (uI s 1 0) 0 0)) FU ((0 : Int32), (-1 : Int32), lN (1 + many), (0 : Int32)) = some (.inr (.inr (nI p.2.1, lN p.2.2)))) ∨ (rfO B V many many = none ∧ (a_loop (fun (q : Int32 × Int32 × Int64 × Int32) => X12_open_b130 (nI i) (nI many) q.1 q.2.1 q.2.2.1 q.2.2.2 (uI (uI s 1 0) 0 0)) FU ((0 : Int32), (-1 : Int32), lN (1 + many), (0 : Int32)) = some (.inl ()) ∨ a_loop (fun (q : Int32 × Int32 × Int64 × Int32) => X12_open_b130 (nI i) (nI many) q.1 q.2.1 q.2.2.1 q.2.2.2 (uI (uI s 1 0) 0 0)) FU ((0 : Int32), (-1 : Int32), lN (1 + many), (0 : Int32)) = some (.inr (.inl ())))) := by
                  obtain ⟨x, g1, g2⟩ := lp_m (body := fun (q : Int32 × Int32 × Int64 × Int32) => X12_open_b130 (nI i) (nI many) q.1 q.2.1 q.2.2.1 q.2.2.2 (uI (uI s 1 0) 0 0)) (I := fun d q => ∃ k p, k ≤ many ∧ d = many - k ∧ rfO B V many k = some p ∧ q = (nI p.2.1, dnI p.1, lN p.2.2, nI k)) (P := fun x => (∃ p, rfO B V many many = some p ∧ x = .inr (.inr (nI p.2.1, lN p.2.2))) ∨ (rfO B V many many = none ∧ (x = .inl () ∨ x = .inr (.inl ())))) (fun d q hd => by
                    obtain ⟨k, p, hk, rfl, hp, rfl⟩ := hd
                    have po := rfO_ok hw k p hp
                    rcases Nat.lt_or_eq_of_le hk with c | c
                    · have hsn := rfO_s hp
                      have none' : rfO B V many (k + 1) = none → rfO B V many many = none := fun q => by
                        have := rfO_n q (many - (k + 1))
                        rwa [show k + 1 + (many - (k + 1)) = many by omega] at this
                      rcases r_open_b (s := uI (uI s 1 0) 0 0) (st := p.2.1) (sm := p.2.2) hB hw hi (by omega) c (hV k c) po.1 with ⟨f, g⟩ | ⟨f, g⟩
                      · rw [if_pos f] at hsn
                        exact Or.inl ⟨many - (k + 1), _, by omega, ⟨k + 1, _, by omega, rfl, hsn, rfl⟩, g⟩
                      · rw [if_neg f] at hsn
                        rcases g with g | g
                        · exact Or.inr ⟨_, Or.inr ⟨none' hsn, Or.inl rfl⟩, g⟩
                        · exact Or.inr ⟨_, Or.inr ⟨none' hsn, Or.inr rfl⟩, g⟩
                    · subst c
                      refine Or.inr ⟨_, Or.inl ⟨p, hp, rfl⟩, ?_⟩
                      dsimp only [X12_open_b130]
                      rw [if_pos (nI_le (Nat.le_refl _) (by omega))]) FU many (nI 0, m1I, lN (1 + many), nI 0) (by show many < 100000; omega) ⟨0, (0, 0, 1 + many), Nat.zero_le _, rfl, rfl, rfl⟩
                  rcases g2 with ⟨p, h1, h2⟩ | ⟨h1, h2 | h2⟩
                  · exact Or.inl ⟨p, h1, by rw [← h2]; exact g1⟩
                  · exact Or.inr ⟨h1, Or.inl (by rw [← h2]; exact g1)⟩
                  · exact Or.inr ⟨h1, Or.inr (by rw [← h2]; exact g1)⟩
                have cls : ∃ k p, k ≤ many ∧ rfO B V many k = some p ∧ (k = many ∨ (k < many ∧ rfO B V many (k + 1) = none)) ∧ a_loop (fun (q : Int32 × Int32 × Int32 × Int32) => X11_readSeal_b13 (nI many) q.1 q.2.1 q.2.2.1 q.2.2.2 s0 s1 r T) FU ((0 : Int32), (2 : Int32), (1 : Int32) + nI many, (0 : Int32)) = some (nI p.2.1, nI (2 + k), nI p.2.2) := by
                  obtain ⟨x, g1, k, p, g2, g3, g4, g5⟩ := lp_m (body := fun (q : Int32 × Int32 × Int32 × Int32) => X11_readSeal_b13 (nI many) q.1 q.2.1 q.2.2.1 q.2.2.2 s0 s1 r T) (I := fun d q => ∃ k p c, k ≤ many ∧ d = B 0 - c ∧ c ≤ B 0 ∧ rfO B V many k = some p ∧ p.1 ≤ c ∧ (k < many → ∀ c', p.1 ≤ c' → c' < c → ¬ V k = lN (slN B c')) ∧ q = (nI p.2.1, nI (2 + k), nI p.2.2, nI c)) (P := fun x => ∃ k p, k ≤ many ∧ rfO B V many k = some p ∧ (k = many ∨ (k < many ∧ rfO B V many (k + 1) = none)) ∧ x = (nI p.2.1, nI (2 + k), nI p.2.2)) (fun d q hd => by
                    obtain ⟨k, p, c, hk, rfl, hc, hp, hpc, hno, rfl⟩ := hd
                    have po := rfO_ok hw k p hp
                    dsimp only [X11_readSeal_b13, X11_readSeal_j74]
                    rw [hR.2.1, show nI many + (2 : Int32) = nI (many + 2) from nI_add _ 2]
                    rcases Nat.lt_or_eq_of_le hc with cc | cc
                    · rw [if_neg (nI_ge cc (by omega))]
                      rcases Nat.lt_or_eq_of_le hk with ck | ck
                      · left
                        have a := sl_k hw cc
                        have hso : pX11_sealOf s0 s1 r (nI c) = some (nI (slN B c)) := by
                          unfold pX11_sealOf
                          rw [g_inT (by omega) (by omega), nI_clamp (by omega), (hR.2.2.2 c cc).1, show (5 : Int32) = nI 5 from rfl, pk_mul, nI_add]; rfl
                        have hget : T.2.2.2 0 (2 + k) = V k := by rw [← hVd]
                        rw [if_neg (nI_ge (by omega) (by omega)), x_get p6 p2 (by omega), ob_s, hget, hso, ob_s, nI_l (by omega)]
                        by_cases cv : V k = lN (slN B c)
                        · have hf := fdO_eq hw cc hpc cv
                          have hsn := rfO_s hp
                          rw [hf, if_pos cc] at hsn
                          refine ⟨B 0 - (c + 1), _, by omega, ⟨k + 1, _, c + 1, by omega, rfl, by omega, hsn, Nat.le_refl _, fun _ c' h1 h2 => by dsimp only at h1; omega, rfl⟩, ?_⟩
                          rw [if_pos cv, show (1 : Int32) <<< (nI c &&& 31) = nI (2 ^ c) from s1I (by omega), orI, thn_eq, ob_s, thn_eq, thn_eq, thn_eq, nI_add, nI_1, nI_1]; rfl
                        · refine ⟨B 0 - (c + 1), _, by omega, ⟨k, p, c + 1, hk, rfl, by omega, hp, by omega, fun hk2 c' h1 h2 => ?_, rfl⟩, ?_⟩
                          · by_cases e : c' = c
                            · rw [e]; exact cv
                            · exact hno hk2 c' h1 (by omega)
                          · rw [if_neg cv, thn_eq, nI_1]
                      · right
                        subst ck
                        refine ⟨_, ⟨k, p, Nat.le_refl _, hp, Or.inl rfl, rfl⟩, ?_⟩
                        rw [if_pos (nI_le (by omega) (by omega))]
                    · right
                      subst cc
                      refine ⟨_, ⟨k, p, hk, hp, ?_, rfl⟩, by rw [if_pos (nI_le (Nat.le_refl _) (by omega))]⟩
                      rcases Nat.lt_or_eq_of_le hk with ck | ck
                      · right
                        refine ⟨ck, ?_⟩
                        rw [rfO_s hp, if_neg]
                        intro q
                        obtain ⟨y1, y2⟩ := fdO_yes q
                        exact hno ck _ y1 q y2
                      · exact Or.inl ck) FU (B 0) (nI 0, nI 2, (1 : Int32) + nI many, nI 0) (by show B 0 < 100000; omega) ⟨0, (0, 0, 1 + many), 0, Nat.zero_le _, rfl, Nat.zero_le _, rfl, Nat.le_refl _, fun _ c' _ h => absurd h (Nat.not_lt_zero _), by rw [show (1 : Int32) + nI many = nI (1 + many) from nI_add 1 _]⟩
                  exact ⟨k, p, g2, g3, g4, by rw [← g5]; exact g1⟩
                obtain ⟨k, p, k1, k2, k3, k4⟩ := cls
                have po := rfO_ok hw k p k2
                unfold pX11_readSeal X11_readSeal_j80 X11_readSeal_j109 X11_readSeal_j110
                rw [thn_eq, k4, ob_s]
                try dsimp only
                rw [show nI many + (2 : Int32) = nI (many + 2) from nI_add _ 2, ifE (by omega) (by omega)]
                rcases ref with ⟨p', h1, h2⟩ | ⟨h1, h2⟩
                · -- all is read
                  have hk : k = many := by
                    rcases k3 with q | ⟨q1, q2⟩
                    · exact q
                    · have := rfO_n q2 (many - (k + 1))
                      rw [show k + 1 + (many - (k + 1)) = many by omega, h1] at this
                      cases this
                  subst hk
                  rw [k2] at h1
                  cases h1
                  have hl := lk_lt hw p.2.1
                  have n6 : ¬ nI p.2.1 = (-1 : Int32) := by rw [show (-1 : Int32) = m1I from rfl, m1_ne (by omega)]; exact not_false
                  have rn : pX12_numberOf (uI (uI s 1 0) 0 0) (nI i) ((2 : Int32) + nI k) = some (T.2.2.2 0 (2 + k)) := by
                    rw [show (2 : Int32) + nI k = nI (2 + k) from nI_add 2 k, r_numberOf hi (by omega), p7 (2 + k) (by omega)]; rfl
                  have md : p.2.2 % 251 < 251 := Nat.mod_lt _ (by decide)
                  rw [h2, ob_s, se_r, se_r]
                  try dsimp only
                  rw [rn, ob_s, if_pos (show 2 + k = k + 2 by omega), x_get p6 p2 (by omega), ob_s, show (251 : Int64) = lN 251 from rfl, pk_lRem (by omega) (by omega) (by omega), show (251 : Int32) = nI 251 from rfl, pk_rem (by omega) (by omega) (by omega), nI_l (by omega)]
                  by_cases c6 : T.2.2.2 0 (2 + k) = lN (p.2.2 % 251)
                  · rw [if_pos c6, if_pos c6, if_pos rfl, r_lackOf (s := uI (uI s 1 0) 0 0) hB hw (by omega), ob_s, x_isClosed hR hw (by omega), ob_s]
                    by_cases c7 : lk B p.2.1 = 0
                    · rw [if_pos (show nI (lk B p.2.1) = 0 by rw [c7]; rfl), if_pos (show (lk B p.2.1 == 0) = true by simpa using c7), ob_s, if_neg n6]
                      exact ⟨_, _, rfl, rq_2 _ _ _, rfl⟩
                    · refine leaf 9 _ _ ?_ ?_
                      · rw [if_neg (show ¬ nI (lk B p.2.1) = 0 from fun q => c7 ((nI_eq (b := 0) (by omega) (by omega)).mp q))]; rfl
                      · rw [if_neg (show ¬ (lk B p.2.1 == 0) = true by simpa using c7)]; rfl
                  · refine leaf 9 _ _ ?_ ?_
                    · rw [if_neg c6]; rfl
                    · rw [if_neg c6]; rfl
                · -- not so
                  have hk : k < many := by
                    rcases k3 with q | ⟨q1, q2⟩
                    · rw [q, h1] at k2; cases k2
                    · exact q1
                  refine leaf 9 _ _ ?_ ?_
                  · rcases h2 with h2 | h2
                    · rw [h2]; rfl
                    · rw [h2]; rfl
                  · rw [if_neg (show ¬ 2 + k = many + 2 by omega)]; rfl
              · refine leaf 4 _ _ ?_ ?_
                · rw [if_neg c5]; rfl
                · rw [decide_eq_false c5]; rfl
            · refine leaf 9 _ _ ?_ ?_
              · rw [e17, isInV (by omega) hmm, decide_eq_false c4]; rfl
              · rw [if_pos (show (16 : Int64) < lN many from (pk_lLT (a := 16) (by omega) hmm).mpr (by omega))]; rfl
        · refine leaf 9 _ _ ?_ ?_
          · rw [if_neg c2]; rfl
          · rw [if_neg c2]; rfl
      · refine leaf 4 _ _ ?_ ?_
        · rw [if_neg c1]; rfl
        · rw [decide_eq_false c1]; rfl
  · refine leaf 1 _ _ ?_ ?_
    · rw [e1]; rfl
    · rw [e2]; rfl
end Q
