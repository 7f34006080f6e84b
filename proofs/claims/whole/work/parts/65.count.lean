/-! ORDERS: the counter -/
def mm0 (len st : Nat) (z : RS) : Prop := z.1 0 = nI len ∧ ∀ i, i < len → ∃ a, z.2.2.2 0 i = lN a ∧ a < 2 ^ 63 ∧ a / 2 ^ 45 ≤ st
def ctR (len st : Nat) (s3 s4 : RS) : Prop := s3.1 4 = nI st ∧ mm0 len st s4 ∧ 0 < len ∧ len ≤ 65536
def eA (e : Option (Nat × Nat)) : Int32 := match e with | none => m1I | some ab => nI ab.1
def eB (e : Option (Nat × Nat)) : Int32 := match e with | none => m1I | some ab => nI ab.2
theorem sb_0 (w : Nat) : sbN 0 w := fun i h => by rw [Nat.zero_testBit] at h; cases h
theorem mm_up {len st : Nat} {W : Nat → Nat} {z : RS} (h : mm0 len st z) : mmR len (st + 1) W z := ⟨h.1, fun i hi => by
  obtain ⟨a, h1, h2, h3⟩ := h.2 i hi
  exact ⟨a, h1, h2, by omega, fun q => by omega⟩⟩
theorem mm_dn {len st : Nat} {W : Nat → Nat} {z : RS} (h : mmR len st W z) : mm0 len st z := ⟨h.1, fun i hi => by
  obtain ⟨a, h1, h2, h3, _⟩ := h.2 i hi
  exact ⟨a, h1, h2, h3⟩⟩
theorem ndR_E {B : Nat → Nat} {w : Nat} {e : Option (Nat × Nat)} (hw2 : w < 2 ^ B 0) (hc : lk B w = 0) : ∀ k, w.testBit k = true → ndR B w e k = ndE B e k := by
  intro k hk
  have : B (98 + k) &&& w = B (98 + k) := by
    apply Nat.eq_of_testBit_eq
    intro i
    rw [Nat.testBit_and]
    cases c : (B (98 + k)).testBit i with
    | false => rfl
    | true => rw [lk_iff.mp hc k (tb_lt hw2 hk) hk i c]; rfl
  unfold ndR ndE
  rw [this]
  cases e <;> rfl
section X
variable {B : Nat → Nat} {r s3 s4 : RS} {w st len : Nat} {e : Option (Nat × Nat)}
theorem x_countF (hR : bkR B r) (hw : wfB B) (he : ∀ ab, e = some ab → ab.1 < B 0 ∧ ab.2 < B 0) (hc : ctR len st s3 s4) (hst : st + 1 < 262144) (hw2 : w < 2 ^ B 0) (hl : w < len) : ∃ q z, pX5_countOrdersWithF s3 r s4 (nI w) (eA e) (eB e) = some (lN (wy (B 0) w (ndE B e) 0), q, z) ∧ cnR B w e (st + 1) q ∧ mmR len (st + 1) (wy (B 0) w (ndE B e)) z ∧ ctR len (st + 1) q z := by
  obtain ⟨c1, c2, c3, c4⟩ := hc
  unfold pX5_countOrdersWithF
  simp only [thn_eq]
  have hq : (uI (uI (uI s3 1 (nI w)) 2 (eA e)) 3 (eB e)).1 4 + 1 = nI (st + 1) := by
    show s3.1 4 + 1 = _
    rw [c1, nI_1]
  rw [hq]
  generalize hQ : uI (uI (uI (uI s3 1 (nI w)) 2 (eA e)) 3 (eB e)) 4 (nI (st + 1)) = q
  have q1 : q.1 1 = nI w := by rw [← hQ]; rfl
  have q4 : q.1 4 = nI (st + 1) := by rw [← hQ]; rfl
  have qc : cnR B w e (st + 1) q := by
    refine ⟨q1, q4, ?_⟩
    rw [← hQ]
    cases e with
    | none => exact ⟨rfl, rfl⟩
    | some ab => exact ⟨rfl, rfl, he ab rfl⟩
  obtain ⟨z, g1, g2⟩ := x_ways hR hw qc hw2 hl c4 (by omega) 20 0 0 s4 (sb_0 w) (Nat.zero_le _) (by omega) (mm_up c2)
  refine ⟨q, z, ?_, qc, g2, q4, mm_dn g2, c3, c4⟩
  rw [c2.1, nI_clamp (by omega), q1, q4, if_neg (show ¬ Int32.ofNat len ≤ nI w from nI_ge hl (by omega)), if_pos (show nI (st + 1) < (262144 : Int32) from nI_lt (b := 262144) hst (by omega))]
  exact bd g1 rfl
theorem x_countG (hR : bkR B r) (hw : wfB B) (he : ∀ ab, e = some ab → ab.1 < B 0 ∧ ab.2 < B 0) (hc : ctR len st s3 s4) (hw2 : w < 2 ^ B 0) (hl : len ≤ w) : ∃ q z, pX5_countOrdersWithG s3 r s4 (nI w) (eA e) (eB e) = some (nI (2 ^ B 0), lN (wy (B 0) w (ndE B e) 0), q, z) ∧ cnR B w e 1 q ∧ mmR (2 ^ B 0) 1 (wy (B 0) w (ndE B e)) z ∧ ctR (2 ^ B 0) 1 q z := by
  have h16 := hw.1
  have p16 : 2 ^ B 0 ≤ 2 ^ 16 := Nat.pow_le_pow_right (by decide) h16
  obtain ⟨c1, c2, c3, c4⟩ := hc
  unfold pX5_countOrdersWithG pX5_countOrdersWithGh X5_countOrdersWithGh_j52 pX5_countOrdersWithGt
  simp only [thn_eq]
  generalize hQ0 : uI (uI (uI (uI s3 1 (nI w)) 2 (eA e)) 3 (eB e)) 4 ((uI (uI (uI s3 1 (nI w)) 2 (eA e)) 3 (eB e)).1 4 + 1) = q0
  have q01 : q0.1 1 = nI w := by rw [← hQ0]; rfl
  rw [c2.1, nI_clamp (by omega), q01, if_pos (show Int32.ofNat len ≤ nI w from nI_le hl (by omega)), hR.2.1, show (1 : Int32) <<< (nI (B 0) &&& 31) = nI (2 ^ B 0) from s1I (by omega), ob_s]
  rw [g_sz_of ⟨nI_pos (by omega), by rw [nI_clamp (by omega)]; omega⟩]
  generalize hQ : uI q0 4 (1 : Int32) = q
  have q1 : q.1 1 = nI w := by rw [← hQ]; exact q01
  have q4 : q.1 4 = nI 1 := by rw [← hQ]; rfl
  have qc : cnR B w e 1 q := by
    refine ⟨q1, q4, ?_⟩
    rw [← hQ, ← hQ0]
    cases e with
    | none => exact ⟨rfl, rfl⟩
    | some ab => exact ⟨rfl, rfl, he ab rfl⟩
  have hz : mm0 (2 ^ B 0) 0 (zW (nI (2 ^ B 0))) := ⟨rfl, fun i _ => ⟨0, rfl, by decide, by decide⟩⟩
  obtain ⟨z, g1, g2⟩ := x_ways hR hw qc hw2 hw2 (by omega) (by decide) 20 0 0 (zW (nI (2 ^ B 0))) (sb_0 w) (Nat.zero_le _) (by omega) (mm_up hz)
  refine ⟨q, z, ?_, qc, g2, q4, mm_dn g2, Nat.two_pow_pos _, by omega⟩
  exact bd (bd g1 rfl) rfl
end X
section R
variable {s : RS} {B : Nat → Nat} {w : Nat} {e : Option (Nat × Nat)}
/-- the reference's count -/
theorem r_count (hB : blk (s.2.2.1 4) 0 B) (hw : wfB B) (he : ∀ ab, e = some ab → ab.1 < B 0 ∧ ab.2 < B 0) (hw2 : w < 2 ^ B 0) (hc : lk B w = 0) : ∃ s1 s2, pX12_need s (nI w) (eA e) (eB e) = some s1 ∧ pX12_countWays s1 (nI w) = some s2 ∧ sx 9 s s1 ∧ sxB 8 s1 s2 ∧ (∀ k, k < B 0 → s2.2.2.1 9 k = nI (ndR B w e k) ∧ ndR B w e k < 65536) ∧ ∀ P, sbN P w → s2.2.2.2 8 P = lN (wy (B 0) w (ndE B e) P) := by
  have h16 := hw.1
  have hn : ∃ s1, pX12_need s (nI w) (eA e) (eB e) = some s1 ∧ sx 9 s s1 ∧ ∀ k, k < B 0 → s1.2.2.1 9 k = nI (ndR B w e k) := by
    cases e with
    | none => exact r_needN hB hw
    | some ab => exact r_needS hB hw (he ab rfl).1 (he ab rfl).2
  obtain ⟨s1, h1, h2, h3⟩ := hn
  have nl : ∀ k, k < B 0 → ndR B w e k < 65536 := fun k hk => by
    unfold ndR
    refine or_lt (n := 16) (an_lt _ (wfB_v hw hk).2.2) ?_
    cases e with
    | none =>
      show 0 < 2 ^ 16
      decide
    | some ab =>
      have := (he ab rfl).1
      show (if k = ab.2 then 2 ^ ab.1 else 0) < 2 ^ 16
      split
      · exact p2_lt (by omega)
      · decide
  have hB1 : blk (s1.2.2.1 4) 0 B := by rw [h2.2.2.2 4 (by decide)]; exact hB
  obtain ⟨s2, k1, k2, k3⟩ := r_countWays hB1 hw (nd := ndR B w e) hw2 (fun k hk => ⟨h3 k hk, nl k hk⟩)
  refine ⟨s1, s2, h1, k1, h2, k2, fun k hk => ⟨?_, nl k hk⟩, fun P hP => ?_⟩
  · rw [k2.2.2.1]; exact h3 k hk
  · rw [k3 P hP, wy_cg (ndR_E hw2 hc)]
end R
/-- the FRACTION -/
theorem gcd_st (x y : Nat) : Nat.gcd x y = Nat.gcd y (x % y) := by
  rw [Nat.gcd_comm x y, Nat.gcd_rec y x, Nat.gcd_comm]
def gcI (g m x y : Nat) : Prop := x < 2 ^ 45 ∧ y < 2 ^ 45 ∧ Nat.gcd x y = g ∧ ((y ≤ x ∧ x * y < 2 ^ m) ∨ (x < y ∧ 1 ≤ m ∧ x * y < 2 ^ (m - 1)))
theorem gcI_st {g m x y : Nat} (h : gcI g m x y) (hy : y ≠ 0) : 1 ≤ m ∧ gcI g (m - 1) y (x % y) := by
  obtain ⟨h1, h2, h3, h4⟩ := h
  have hr : x % y < y := Nat.mod_lt _ (Nat.pos_of_ne_zero hy)
  have hg : Nat.gcd y (x % y) = g := by rw [← gcd_st]; exact h3
  rcases h4 with ⟨c1, c2⟩ | ⟨c1, c2, c3⟩
  · have m1 : 1 ≤ m := by
      rcases Nat.eq_zero_or_pos m with q | q
      · subst q
        have : 0 < x * y := Nat.mul_pos (by omega) (by omega)
        omega
      · exact q
    refine ⟨m1, h2, by omega, hg, Or.inl ⟨by omega, ?_⟩⟩
    have e := Nat.div_add_mod x y
    have q1 : 1 ≤ x / y := (Nat.le_div_iff_mul_le (by omega)).mpr (by omega)
    have e2 : y ≤ y * (x / y) := Nat.le_mul_of_pos_right y q1
    have : 2 * (x % y) ≤ x := by omega
    have h5 : 2 * (y * (x % y)) ≤ x * y := by
      rw [Nat.mul_left_comm, Nat.mul_comm x y]
      exact Nat.mul_le_mul_left y this
    have h6 : 2 ^ m = 2 * 2 ^ (m - 1) := by
      rw [← Nat.pow_succ']; congr 1; omega
    omega
  · rw [Nat.mod_eq_of_lt c1] at hg ⊢
    exact ⟨c2, h2, h1, hg, Or.inl ⟨by omega, by rw [Nat.mul_comm]; exact c3⟩⟩
theorem gcI_0 {t b : Nat} (ht : t < 2 ^ 45) (hb : b < 2 ^ 45) : gcI (Nat.gcd t b) 91 t b := by
  have : t * b < 2 ^ 45 * 2 ^ 45 := by
    rcases Nat.eq_zero_or_pos t with q | q
    · rw [q, Nat.zero_mul]; decide
    · exact Nat.mul_lt_mul_of_le_of_lt (by omega) hb (by omega)
  refine ⟨ht, hb, rfl, ?_⟩
  rcases Nat.lt_or_ge t b with q | q
  · exact Or.inr ⟨q, by omega, by simpa [← Nat.pow_add] using this⟩
  · exact Or.inl ⟨q, Nat.lt_trans this (by decide)⟩
theorem r_fraction {s : RS} {t b : Nat} (ht : t < 2 ^ 45) (hb : b < 2 ^ 45) (hb0 : 0 < b) : pX12_fraction s (lN t) (lN b) = some (true, uL (uL s 2 (lN (t / Nat.gcd t b))) 3 (lN (b / Nat.gcd t b))) := by
  have g0 : 0 < Nat.gcd t b := Nat.gcd_pos_of_pos_right _ hb0
  have gb : Nat.gcd t b ≤ b := Nat.gcd_le_right _ hb0
  have ha : pJ9_abs_067f4 (lN t) = some (lN t) := by
    unfold pJ9_abs_067f4
    rw [if_pos (show (0 : Int64) ≤ lN t from (pk_lLE (a := 0) (by omega) (by omega)).mpr (Nat.zero_le _))]
  unfold pX12_fraction
  rw [ha, ob_s]
  obtain ⟨x, h1, h2⟩ := lp_m (body := fun (q : Int64 × Int64) => X12_fraction_b9 (lN t) (lN b) q.1 q.2 s) (I := fun m q => ∃ x y, q = (lN x, lN y) ∧ gcI (Nat.gcd t b) m x y) (P := fun x => x = lN (Nat.gcd t b)) (fun m q hi => by
    obtain ⟨x, y, rfl, hg⟩ := hi
    dsimp only [X12_fraction_b9]
    have x6 := hg.1
    have y6 := hg.2.1
    by_cases c : y = 0
    · refine Or.inr ⟨lN x, ?_, ?_⟩
      · have := hg.2.2.1
        rw [c, Nat.gcd_zero_right] at this
        rw [this]
      · rw [if_pos (by rw [c]; rfl)]
    · obtain ⟨m1, hn⟩ := gcI_st hg c
      refine Or.inl ⟨m - 1, (lN y, lN (x % y)), by omega, ⟨y, x % y, rfl, hn⟩, ?_⟩
      have nz : ¬ lN y = (0 : Int64) := fun q => c ((pk_lEQ (b := 0) (by omega) (by omega)).mp q)
      rw [if_neg nz, g_nzL, if_neg nz, pk_lRem (by omega) (by omega) (by omega), thn_eq]) FU 91 (lN t, lN b) (by decide) ⟨t, b, rfl, gcI_0 ht hb⟩
  have nz : ¬ lN (Nat.gcd t b) = (0 : Int64) := fun q => by
    have := (pk_lEQ (b := 0) (by omega) (by omega)).mp q
    omega
  refine bd h1 ?_
  rw [h2, g_nzL, if_neg nz, thn_eq, g_nzL, if_neg nz, thn_eq, pk_lDiv (by omega) g0 (by omega), pk_lDiv (by omega) g0 (by omega)]
theorem x_fraction {s : RS} {t b : Nat} (ht : t < 2 ^ 45) (hb : b < 2 ^ 45) (hb0 : 0 < b) : pX11_tellFraction s (lN t) (lN b) = some (uL (uL s 12 (lN (t / Nat.gcd t b))) 13 (lN (b / Nat.gcd t b))) := by
  have g0 : 0 < Nat.gcd t b := Nat.gcd_pos_of_pos_right _ hb0
  have gb : Nat.gcd t b ≤ b := Nat.gcd_le_right _ hb0
  have hd : pX11_commonDivisor (lN t) (lN b) = some (lN (Nat.gcd t b)) := by
    unfold pX11_commonDivisor
    obtain ⟨x, h1, h2⟩ := lp_m (body := fun (q : Int64 × Int64 × Int32) => X11_commonDivisor_b9 q.1 q.2.1 q.2.2) (I := fun m q => ∃ x y i, q = (lN x, lN y, nI i) ∧ i + m ≤ 91 ∧ gcI (Nat.gcd t b) m x y) (P := fun x => x = lN (Nat.gcd t b)) (fun m q hi => by
      obtain ⟨x, y, i, rfl, him, hg⟩ := hi
      dsimp only [X11_commonDivisor_b9]
      have x6 := hg.1
      have y6 := hg.2.1
      rw [if_neg (show ¬ (200 : Int32) ≤ nI i from nI_ge (b := 200) (by omega) (by omega))]
      by_cases c : y = 0
      · refine Or.inr ⟨lN x, ?_, ?_⟩
        · have := hg.2.2.1
          rw [c, Nat.gcd_zero_right] at this
          rw [this]
        · rw [if_pos (by rw [c]; rfl)]
      · obtain ⟨m1, hn⟩ := gcI_st hg c
        refine Or.inl ⟨m - 1, (lN y, lN (x % y), nI (i + 1)), by omega, ⟨y, x % y, i + 1, rfl, by omega, hn⟩, ?_⟩
        have nz : ¬ lN y = (0 : Int64) := fun q => c ((pk_lEQ (b := 0) (by omega) (by omega)).mp q)
        rw [if_neg nz, g_nzL, if_neg nz, pk_lRem (by omega) (by omega) (by omega), thn_eq, thn_eq, nI_1]) FU 91 (lN t, lN b, nI 0) (by decide) ⟨t, b, 0, rfl, by omega, gcI_0 ht hb⟩
    exact bd h1 (by rw [h2])
  have nz : ¬ lN (Nat.gcd t b) = (0 : Int64) := fun q => by
    have := (pk_lEQ (b := 0) (by omega) (by omega)).mp q
    omega
  have np : ¬ lN (Nat.gcd t b) ≤ (0 : Int64) := fun q => by
    have := (pk_lLE (b := 0) (by omega) (by omega)).mp q
    omega
  unfold pX11_tellFraction
  rw [hd, ob_s, if_neg np, g_nzL, if_neg nz, thn_eq, g_nzL, if_neg nz, thn_eq, pk_lDiv (by omega) g0 (by omega), pk_lDiv (by omega) g0 (by omega)]
theorem smN_get {f : Nat → Nat} : ∀ {n k : Nat}, k < n → f k ≤ smN f n
  | 0, _, h => absurd h (Nat.not_lt_zero _)
  | n + 1, k, h => by
    rw [smN_s]
    by_cases e : k = n
    · subst e; exact Nat.le_add_left _ _
    · exact Nat.le_trans (smN_get (n := n) (by omega)) (Nat.le_add_right _ _)
/-- there is an ORDER of every SET that HOLDS -/
theorem wy_pos {B : Nat → Nat} (hw : wfB B) {w : Nat} (hw2 : w < 2 ^ B 0) (hc : lk B w = 0) : ∀ d j, j + d = B 0 → 0 < wy (B 0) w (ndE B none) (mkN (fun i => w.testBit i) j)
  | 0, j, h => by
    have : j = B 0 := by omega
    rw [this, mk_tb hw2, wy_self]; decide
  | d + 1, j, h => by
    have h16 := hw.1
    have w6 : w < 65536 := Nat.lt_of_lt_of_le hw2 (Nat.pow_le_pow_right (n := 2) (by decide) h16)
    have ih := wy_pos hw hw2 hc d (j + 1) (by omega)
    rw [mkN_s] at ih
    cases c : w.testBit j with
    | false => rw [c, if_neg (by decide), Nat.or_zero] at ih; exact ih
    | true =>
      rw [c, if_pos rfl] at ih
      have nb : (mkN (fun i => w.testBit i) j).testBit j = false := by rw [mkN_tb]; simp
      have hs : sbN (mkN (fun i => w.testBit i) j) w := fun i hi => by
        rw [mkN_tb] at hi
        exact (Bool.and_eq_true_iff.mp hi).2
      have hne : mkN (fun i => w.testBit i) j ≠ w := fun q => by rw [q, c] at nb; cases nb
      rw [wy_step w6 hs hne]
      have hr : rdy w (ndE B none) (mkN (fun i => w.testBit i) j) j = true := by
        unfold rdy
        rw [c, nb]
        have : bdf (ndE B none j) (mkN (fun i => w.testBit i) j) = 0 := by
          apply Nat.eq_of_testBit_eq
          intro i
          rw [bdf_tb, Nat.zero_testBit, mkN_tb]
          have e0 : ndE B none j = B (98 + j) := Nat.or_zero _
          rw [e0]
          cases c2 : (B (98 + j)).testBit i with
          | false => rfl
          | true =>
            have h1 := tb_lt (hw.2.2 j (by omega)).2.1 c2
            have h2 := lk_iff.mp hc j (by omega) c i c2
            rw [h2, decide_eq_true h1]; rfl
        rw [this]; rfl
      have := smN_get (f := fun k => if rdy w (ndE B none) (mkN (fun i => w.testBit i) j) k then wy (B 0) w (ndE B none) (mkN (fun i => w.testBit i) j ||| 2 ^ k) else 0) (n := B 0) (k := j) (by omega)
      rw [hr, if_pos rfl] at this
      omega
