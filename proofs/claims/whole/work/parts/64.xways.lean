/-! HOW MANY ORDERS: the class -/
theorem l_shr {a : Nat} (h : a < 2 ^ 63) : lN a >>> ((45 : Int32).toInt64 &&& 63) = lN (a / 2 ^ 45) := by
  have hD : (((45 : Int32).toInt64 &&& 63).toBitVec.smod 64).toNat = 45 := by decide +kernel
  have hd : a / 2 ^ 45 ≤ a := Nat.div_le_self _ _
  apply Int64.toInt_inj.mp
  have e : (lN a >>> ((45 : Int32).toInt64 &&& 63)).toInt = (lN a).toInt >>> 45 := by
    rw [← hD]
    exact BitVec.toInt_sshiftRight ..
  rw [e, Int.shiftRight_eq_div_pow, pk_lT h, pk_lT (by omega)]
  rfl
theorem l_shl {a : Nat} : lN a <<< ((45 : Int32).toInt64 &&& 63) = lN (a * 2 ^ 45) := by
  have hD : ((45 : Int32).toInt64 &&& 63).toBitVec.smod 64 = BitVec.ofNat 64 45 := by decide +kernel
  apply Int64.toBitVec_inj.mp
  rw [Int64.toBitVec_shiftLeft, hD]
  show BitVec.ofNat 64 a <<< BitVec.ofNat 64 45 = BitVec.ofNat 64 (a * 2 ^ 45)
  apply BitVec.eq_of_toNat_eq
  rw [BitVec.shiftLeft_eq', BitVec.toNat_shiftLeft, BitVec.toNat_ofNat, BitVec.toNat_ofNat, BitVec.toNat_ofNat, Nat.shiftLeft_eq, Nat.mul_mod, Nat.mod_mod, ← Nat.mul_mod]
theorem l_or {a v : Nat} (h : v < 2 ^ 45) : lN (a * 2 ^ 45) ||| lN v = lN (a * 2 ^ 45 + v) := by
  rw [Nat.mul_comm, Nat.two_pow_add_eq_or_of_lt h]
  apply Int64.toBitVec_inj.1
  show BitVec.ofNat 64 _ ||| BitVec.ofNat 64 _ = BitVec.ofNat 64 _
  apply BitVec.eq_of_getLsbD_eq
  intro i hi
  simp [hi]
theorem l_mask (a : Nat) : lN a &&& (35184372088831 : Int64) = lN (a % 2 ^ 45) := by
  rw [← Nat.and_two_pow_sub_one_eq_mod]
  apply Int64.toBitVec_inj.1
  show BitVec.ofNat 64 a &&& BitVec.ofNat 64 (2 ^ 45 - 1) = BitVec.ofNat 64 _
  apply BitVec.eq_of_getLsbD_eq
  intro i hi
  simp [hi]
def ndE (B : Nat → Nat) (e : Option (Nat × Nat)) (k : Nat) : Nat := B (98 + k) ||| (match e with | none => 0 | some ab => if k = ab.2 then 2 ^ ab.1 else 0)
def awt (B : Nat → Nat) (e : Option (Nat × Nat)) (R k : Nat) : Bool := !(hgr B k &&& R == 0) || (match e with | none => false | some ab => k == ab.1 && R.testBit ab.2)
def cnR (B : Nat → Nat) (w : Nat) (e : Option (Nat × Nat)) (st : Nat) (q : RS) : Prop := q.1 1 = nI w ∧ q.1 4 = nI st ∧ match e with | none => q.1 2 = m1I ∧ q.1 3 = m1I | some ab => q.1 2 = nI ab.1 ∧ q.1 3 = nI ab.2 ∧ ab.1 < B 0 ∧ ab.2 < B 0
def mmR (len st : Nat) (W : Nat → Nat) (z : RS) : Prop := z.1 0 = nI len ∧ ∀ i, i < len → ∃ a, z.2.2.2 0 i = lN a ∧ a < 2 ^ 63 ∧ a / 2 ^ 45 ≤ st ∧ (a / 2 ^ 45 = st → a % 2 ^ 45 = W i)
theorem ndE_lt {B : Nat → Nat} (hw : wfB B) {e : Option (Nat × Nat)} (he : ∀ ab, e = some ab → ab.1 < B 0) {k : Nat} (hk : k < B 0) : ndE B e k < 65536 := by
  have h16 := hw.1
  unfold ndE
  refine or_lt (n := 16) (wfB_v hw hk).2.2 ?_
  cases e with
  | none =>
    show 0 < 2 ^ 16
    decide
  | some ab =>
    have := he ab rfl
    try dsimp only
    split
    · exact p2_lt (by omega)
    · decide
theorem awt_no {B : Nat → Nat} {e : Option (Nat × Nat)} {R k : Nat} (h : awt B e R k = false) : ∀ j, j < B 0 → R.testBit j = true → (ndE B e j).testBit k = false := by
  intro j hj hR
  unfold awt at h
  obtain ⟨h1, h2⟩ := Bool.or_eq_false_iff.mp h
  have h3 : hgr B k &&& R = 0 := by simpa using h1
  unfold ndE
  rw [Nat.testBit_or]
  have h4 : (B (98 + j)).testBit k = false := by
    have : (hgr B k &&& R).testBit j = false := by rw [h3, Nat.zero_testBit]
    rw [Nat.testBit_and, hR, hgr, mkN_tb, decide_eq_true hj] at this
    simpa using this
  rw [h4, Bool.false_or]
  cases e with
  | none => exact Nat.zero_testBit k
  | some ab =>
    dsimp only at h2 ⊢
    by_cases e1 : j = ab.2
    · rw [if_pos e1, p2_tb]
      rw [← e1, hR, Bool.and_true] at h2
      have : k ≠ ab.1 := by simpa using h2
      exact decide_eq_false (fun q => this q.symm)
    · rw [if_neg e1]; exact Nat.zero_testBit k
section X
variable {B : Nat → Nat} {r q : RS} {w st : Nat} {e : Option (Nat × Nat)}
theorem x_isReady (hR : bkR B r) (hw : wfB B) (hc : cnR B w e st q) {k P : Nat} (hk : k < B 0) (hP : P < 65536) : pX5_isReady q r (nI k) (nI P) = some (bdf (ndE B e k) P == 0) := by
  have h16 := hw.1
  have he : ∀ ab, e = some ab → ab.1 < B 0 := fun ab h => by
    subst h; exact hc.2.2.2.2.1
  have nl := ndE_lt hw he hk
  have dl : bdf (ndE B e k) P < 65536 := bdf_lt (n := 16) nl
  unfold pX5_isReady X5_isReady_j27
  rw [g_inT (by omega) (by omega), thn_eq, nI_clamp (by omega), (hR.2.2.2 k hk).2.2.2.2.2.2.1, show (-1 : Int32) = m1I from rfl]
  have fin : ∀ x, x = ndE B e k → (if nI x &&& (nI P ^^^ m1I) = 0 then some true else some false) = some (bdf (ndE B e k) P == 0) := by
    intro x hx
    rw [hx, dfI, show (0 : Int32) = nI 0 from rfl, ifE (by omega) (by omega)]
    by_cases c : bdf (ndE B e k) P = 0 <;> simp [c]
  cases e with
  | none =>
    have h3 : q.1 3 = m1I := hc.2.2.2
    rw [h3, if_neg (by rw [m1_ne (by omega)]; exact not_false)]
    exact fin _ (by show _ = _ ||| 0; rw [Nat.or_zero])
  | some ab =>
    obtain ⟨c1, c2, c3, c4⟩ : q.1 2 = nI ab.1 ∧ q.1 3 = nI ab.2 ∧ ab.1 < B 0 ∧ ab.2 < B 0 := hc.2.2
    rw [c2, c1, ifE (by omega) (by omega), show (1 : Int32) = nI 1 from rfl, show (31 : Int32) = nI 31 from rfl, s1I (by omega), orI, thn_eq]
    by_cases d : k = ab.2
    · rw [if_pos d]
      exact fin _ (by show _ = _ ||| (if k = ab.2 then 2 ^ ab.1 else 0); rw [if_pos d])
    · rw [if_neg d]
      exact fin _ (by show _ = _ ||| (if k = ab.2 then 2 ^ ab.1 else 0); rw [if_neg d, Nat.or_zero])
theorem x_isAwaited (hR : bkR B r) (hw : wfB B) (hc : cnR B w e st q) {k R : Nat} (hk : k < B 0) (hR6 : R < 65536) : pX5_isAwaited q r (nI k) (nI R) = some (awt B e R k) := by
  have h16 := hw.1
  have gl := hgr_lt hw k
  have al : hgr B k &&& R < 65536 := an_lt (n := 16) _ gl
  unfold pX5_isAwaited awt
  rw [g_inT (by omega) (by omega), nI_clamp (by omega), (hR.2.2.2 k hk).2.2.2.2.2.2.2.1, anI, show (0 : Int32) = nI 0 from rfl, ifE (by omega) (by omega)]
  by_cases c : hgr B k &&& R = 0
  · rw [if_pos c]
    have c' : (hgr B k &&& R == 0) = true := by simpa using c
    rw [c']
    cases e with
    | none =>
      have h2 : q.1 2 = m1I := hc.2.2.1
      rw [h2, if_neg (by rw [m1_ne (by omega)]; exact not_false)]; rfl
    | some ab =>
      obtain ⟨c1, c2, c3, c4⟩ : q.1 2 = nI ab.1 ∧ q.1 3 = nI ab.2 ∧ ab.1 < B 0 ∧ ab.2 < B 0 := hc.2.2
      rw [c1, c2, ifE (by omega) (by omega), isInT (by omega) (by omega), ob_s]
      by_cases d : k = ab.1
      · rw [if_pos d]
        have d' : (k == ab.1) = true := by simpa using d
        try dsimp only
        rw [d']
        cases R.testBit ab.2 <;> rfl
      · rw [if_neg d]
        have d' : (k == ab.1) = false := by simpa using d
        try dsimp only
        rw [d']; rfl
  · rw [if_neg c]
    have c' : (hgr B k &&& R == 0) = false := by simpa using c
    rw [c']; rfl
theorem x_readyOnes (hR : bkR B r) (hw : wfB B) (hc : cnR B w e st q) (hw6 : w < 65536) {P : Nat} (hP : P < 65536) : pX5_readyOnes q r (nI P) = some (nI (mkN (fun k => rdy w (ndE B e) P k) (B 0))) := by
  have h16 := hw.1
  have d6 : bdf w P < 65536 := bdf_lt (n := 16) hw6
  unfold pX5_readyOnes
  refine bd (lp_acc (fun k => mkN (fun k => rdy w (ndE B e) P k) k) (B 0) (by omega) (fun k hk => ?_) ?_) rfl
  · dsimp only [X5_readyOnes_b4, X5_readyOnes_j45]
    rw [hR.2.1, hc.1, if_neg (nI_ge hk (by omega)), show (-1 : Int32) = m1I from rfl, dfI, isInT (by omega) (by omega), ob_s, x_isReady hR hw hc hk hP, ob_s, bdf_tb, show (1 : Int32) = nI 1 from rfl, show (31 : Int32) = nI 31 from rfl, s1I (by omega), orI]
    simp only [thn_eq, nI_1, nI_add]
    have hu : mkN (fun k => rdy w (ndE B e) P k) (k + 1) = mkN (fun k => rdy w (ndE B e) P k) k ||| (if rdy w (ndE B e) P k then 2 ^ k else 0) := rfl
    rw [hu]
    unfold rdy
    cases w.testBit k <;> cases P.testBit k <;> cases (bdf (ndE B e k) P == 0) <;> simp
  · dsimp only [X5_readyOnes_b4]
    rw [hR.2.1, if_pos (nI_le (Nat.le_refl _) (by omega))]
theorem x_freeAmong (hR : bkR B r) (hw : wfB B) (hc : cnR B w e st q) {rd R : Nat} (hrd : rd < 65536) (hR6 : R < 65536) : pX5_freeAmong q r (nI rd) (nI R) = some (nI (mkN (fun k => rd.testBit k && !awt B e R k) (B 0))) := by
  have h16 := hw.1
  unfold pX5_freeAmong
  refine bd (lp_acc (fun k => mkN (fun k => rd.testBit k && !awt B e R k) k) (B 0) (by omega) (fun k hk => ?_) ?_) rfl
  · dsimp only [X5_freeAmong_b5, X5_freeAmong_j43]
    rw [hR.2.1, if_neg (nI_ge hk (by omega)), isInT (by omega) (by omega), ob_s, x_isAwaited hR hw hc hk hR6, ob_s, show (1 : Int32) = nI 1 from rfl, show (31 : Int32) = nI 31 from rfl, s1I (by omega), orI]
    simp only [thn_eq, nI_1, nI_add]
    have hu : mkN (fun k => rd.testBit k && !awt B e R k) (k + 1) = mkN (fun k => rd.testBit k && !awt B e R k) k ||| (if rd.testBit k && !awt B e R k then 2 ^ k else 0) := rfl
    rw [hu]
    cases rd.testBit k <;> cases awt B e R k <;> simp
  · dsimp only [X5_freeAmong_b5]
    rw [hR.2.1, if_pos (nI_le (Nat.le_refl _) (by omega))]
theorem x_places {m c : Nat} (hm : m ≤ 16) (hcm : c ≤ m) : pX5_places (nI m) (nI c) = some (lN (plN m c)) := by
  unfold pX5_places
  rw [thn_eq]
  refine bd (lp_f (fun k => (lN (plN m k), nI k)) c (by omega) (fun k hk => ?_) ?_) rfl
  · dsimp only [X5_places_b5]
    rw [if_neg (nI_ge hk (by omega)), sbI (by omega), nI_l (by omega), lN_mul, thn_eq, thn_eq, nI_1]; rfl
  · dsimp only [X5_places_b5]
    rw [if_pos (nI_le (Nat.le_refl _) (by omega))]
theorem x_sumOver (hR : bkR B r) (hw : wfB B) {W : Nat → Nat} {len : Nat} {rd P : Nat} {dp : Int32} (hrd : rd < 65536) (hP : P < 65536) (rc : RS → RS → RS → Int32 → Int32 → Option (Int64 × RS)) (hrc : ∀ k z, k < B 0 → rd.testBit k = true → mmR len st W z → ∃ z', rc q r z (nI (P ||| 2 ^ k)) (dp + (1 : Int32)) = some (lN (W (P ||| 2 ^ k)), z') ∧ mmR len st W z') {z : RS} (hz : mmR len st W z) : ∃ z', pX5_sumOver rc q r z (nI rd) (nI P) dp = some (lN (smN (fun k => if rd.testBit k then W (P ||| 2 ^ k) else 0) (B 0)), z') ∧ mmR len st W z' := by
  have h16 := hw.1
  unfold pX5_sumOver
  rw [thn_eq]
  obtain ⟨x, h1, z', h2, h3⟩ := lp_m (body := fun (y : Int64 × Int32 × RS) => X5_sumOver_b6 rc (nI rd) (nI P) dp y.1 y.2.1 q r y.2.2) (I := fun m y => ∃ k z', k ≤ B 0 ∧ m = B 0 - k ∧ y = (lN (smN (fun k => if rd.testBit k then W (P ||| 2 ^ k) else 0) k), nI k, z') ∧ mmR len st W z') (P := fun y => ∃ z', y = (lN (smN (fun k => if rd.testBit k then W (P ||| 2 ^ k) else 0) (B 0)), z') ∧ mmR len st W z') (fun m y hi => by
    obtain ⟨k, z', hk, rfl, rfl, hm⟩ := hi
    dsimp only [X5_sumOver_b6, X5_sumOver_j45]
    rw [hR.2.1]
    rcases Nat.lt_or_eq_of_le hk with c | c
    · left
      have hu : smN (fun k => if rd.testBit k then W (P ||| 2 ^ k) else 0) (k + 1) = smN (fun k => if rd.testBit k then W (P ||| 2 ^ k) else 0) k + (if rd.testBit k then W (P ||| 2 ^ k) else 0) := rfl
      rw [if_neg (nI_ge c (by omega)), isInT (by omega) (by omega), ob_s, show (1 : Int32) <<< (nI k &&& 31) = nI (2 ^ k) from s1I (by omega), orI]
      cases t : rd.testBit k with
      | true =>
        obtain ⟨z2, g1, g2⟩ := hrc k z' c t hm
        refine ⟨B 0 - (k + 1), _, by omega, ⟨k + 1, z2, by omega, rfl, rfl, g2⟩, ?_⟩
        rw [if_pos rfl, g1, ob_s, hu, t, if_pos rfl]
        simp only [thn_eq, lN_add, nI_1]
      | false =>
        refine ⟨B 0 - (k + 1), _, by omega, ⟨k + 1, z', by omega, rfl, rfl, hm⟩, ?_⟩
        rw [if_neg (by decide), hu, t, if_neg (by decide)]
        simp only [thn_eq, nI_1, Nat.add_zero]
    · subst c
      exact Or.inr ⟨_, ⟨z', rfl, hm⟩, by rw [if_pos (nI_le (Nat.le_refl _) (by omega))]⟩) FU (B 0) (lN 0, nI 0, z) (by show B 0 < 100000; omega) ⟨0, z, Nat.zero_le _, rfl, rfl, hz⟩
  refine ⟨z', bd h1 ?_, h3⟩
  rw [h2]
/-- HOW MANY WAYS THERE ARE, with what is remembered -/
theorem x_ways (hR : bkR B r) (hw : wfB B) (hc : cnR B w e st q) (hw2 : w < 2 ^ B 0) {len : Nat} (hlen : w < len) (hl6 : len ≤ 65536) (hst : st < 2 ^ 18) : ∀ (n dp P : Nat) (z : RS), sbN P w → dp ≤ bts P → 18 ≤ n + dp → mmR len st (wy (B 0) w (ndE B e)) z → ∃ z', pX5_waysBehind n q r z (nI P) (nI dp) = some (lN (wy (B 0) w (ndE B e) P), z') ∧ mmR len st (wy (B 0) w (ndE B e)) z'
  | 0, dp, P, _, _, hd, hn, _ => absurd (bts_le P) (by omega)
  | n + 1, dp, P, z, hs, hd, hn, hz => by
    have h16 := hw.1
    have w6 : w < 65536 := by omega
    have P6 : P ≤ w := sb_le hs w6
    have dp16 := bts_le P
    have he : ∀ ab, e = some ab → ab.1 < B 0 := fun ab h => by
      subst h; exact hc.2.2.2.2.1
    show ∃ z', pX5_waysBehind_f (pX5_waysBehind n) q r z (nI P) (nI dp) = _ ∧ _
    unfold pX5_waysBehind_f
    rw [hc.1, hc.2.1, ifE (by omega) (by omega)]
    by_cases e1 : P = w
    · rw [if_pos e1, e1, wy_self]
      exact ⟨z, rfl, hz⟩
    · have d6 : bdf w P < 65536 := bdf_lt (n := 16) w6
      obtain ⟨a, a1, a2, a3, a4⟩ := hz.2 P (by omega)
      rw [if_neg e1, if_neg (show ¬ (16 : Int32) < nI dp from nI_nlt (a := 16) (by omega) (by omega)), if_neg (show ¬ nI P < 0 from nI_nlt (b := 0) (Nat.zero_le _) (by omega)), hz.1, nI_clamp (by omega), if_pos (show nI P < Int32.ofNat len from nI_lt (by omega) (by omega)), g_inT (by omega) (by omega), nI_clamp (by omega), a1, l_shr a2, nI_l (by omega)]
      by_cases e2 : a / 2 ^ 45 = st
      · rw [if_pos (by rw [e2]), g_inT (by omega) (by omega), l_mask, a4 e2]
        exact ⟨z, rfl, hz⟩
      · have hne : ¬ lN (a / 2 ^ 45) = lN st := fun h => e2 ((pk_lEQ (Nat.lt_of_le_of_lt (Nat.div_le_self _ _) a2) (by omega)).mp h)
        have rd6 : mkN (fun k => rdy w (ndE B e) P k) (B 0) < 65536 := mkN_lt' (m := 16) h16
        rw [if_neg hne, x_readyOnes hR hw hc w6 (by omega), ob_s, show (-1 : Int32) = m1I from rfl, dfI, x_freeAmong hR hw hc rd6 d6, ob_s]
        -- what is written down
        have put : ∀ (z' : RS), mmR len st (wy (B 0) w (ndE B e)) z' → ∃ z2, X5_waysBehind_j135 (pX5_waysBehind n) (nI P) (lN (wy (B 0) w (ndE B e) P)) q r z' = some (lN (wy (B 0) w (ndE B e) P), z2) ∧ mmR len st (wy (B 0) w (ndE B e)) z2 := by
          intro z' hz'
          have wl := wy_lt (nd := ndE B e) h16 w6 hs
          unfold X5_waysBehind_j135
          rw [hz'.1, nI_clamp (by omega), g_inT (by omega) (by omega), nI_clamp (by omega), hc.2.1, nI_l (by omega), l_shl, l_or wl, thn_eq]
          refine ⟨_, rfl, hz'.1, fun i hi => ?_⟩
          by_cases ei : i = P
          · refine ⟨st * 2 ^ 45 + wy (B 0) w (ndE B e) P, ?_, by omega, by omega, fun _ => ?_⟩
            · rw [ei, uB_at, updL_at]
            · rw [ei]; omega
          · rw [uB_at, updL_ne _ _ ei]; exact hz'.2 i hi
        generalize hF : mkN (fun k => (mkN (fun k => rdy w (ndE B e) P k) (B 0)).testBit k && !awt B e (bdf w P) k) (B 0) = F
        have F6 : F < 65536 := by rw [← hF]; exact mkN_lt' (m := 16) h16
        rw [show (0 : Int32) = nI 0 from rfl, ifE (by omega) (by omega)]
        by_cases e3 : F = 0
        · rw [if_pos e3]
          obtain ⟨z2, g1, g2⟩ := x_sumOver (st := st) (q := q) hR hw (W := wy (B 0) w (ndE B e)) (len := len) (rd := mkN (fun k => rdy w (ndE B e) P k) (B 0)) (P := P) (dp := nI dp) rd6 (by omega) (pX5_waysBehind n) (fun k z1 hk hb hz1 => by
            rw [mkN_tb, decide_eq_true hk, Bool.true_and] at hb
            obtain ⟨r1, r2, r3⟩ := rdy_w hb
            have := bts_or (A := P) (k := k) (by omega) r2
            rw [nI_1]
            exact x_ways hR hw hc hw2 hlen hl6 hst n (dp + 1) (P ||| 2 ^ k) z1 (sb_or hs r1) (by omega) (by omega) hz1) hz
          have e4 : smN (fun k => if (mkN (fun k => rdy w (ndE B e) P k) (B 0)).testBit k then wy (B 0) w (ndE B e) (P ||| 2 ^ k) else 0) (B 0) = wy (B 0) w (ndE B e) P := by
            rw [wy_step w6 hs e1]
            apply smN_cg
            intro k hk
            rw [mkN_tb, decide_eq_true hk, Bool.true_and]
          rw [e4] at g1
          rw [g1, ob_s]
          exact put z2 g2
        · have hFb : ∀ f, F.testBit f = true → rdy w (ndE B e) P f = true ∧ ∀ k, w.testBit k = true → P.testBit k = false → (ndE B e k).testBit f = false := fun f hf => by
            rw [← hF, mkN_tb] at hf
            obtain ⟨f1, f2⟩ := Bool.and_eq_true_iff.mp hf
            obtain ⟨f3, f4⟩ := Bool.and_eq_true_iff.mp f2
            rw [mkN_tb] at f3
            refine ⟨(Bool.and_eq_true_iff.mp f3).2, fun k k1 k2 => ?_⟩
            refine awt_no (by simpa using f4) k (tb_lt hw2 k1) ?_
            rw [bdf_tb, k1, k2]; rfl
          have hsF : sbN F (bdf w P) := fun i hi => by
            obtain ⟨r1, r2, _⟩ := rdy_w (hFb i hi).1
            rw [bdf_tb, r1, r2]; rfl
          have hsP : sbN (P ||| F) w := fun i hi => by
            rw [Nat.testBit_or] at hi
            rcases Bool.or_eq_true_iff.mp hi with c | c
            · exact hs i c
            · have := hsF i c
              rw [bdf_tb] at this
              exact (Bool.and_eq_true_iff.mp this).1
          have bF := bts_mono hsF
          have b16 := bts_le (bdf w P)
          have F0 : bts F ≠ 0 := fun h => e3 (bts_0 F6 h)
          have bPF : bts P + 1 ≤ bts (P ||| F) := by
            have h1 : bts (bdf (P ||| F) P) + bts P = bts (P ||| F) := bts_bdf (fun i hi => by rw [Nat.testBit_or, hi]; rfl)
            have h2 : bdf (P ||| F) P = F := by
              apply Nat.eq_of_testBit_eq
              intro i
              rw [bdf_tb, Nat.testBit_or]
              cases c : F.testBit i with
              | true =>
                have := hsF i c
                rw [bdf_tb] at this
                rw [Bool.or_true]
                exact (by rw [(Bool.and_eq_true_iff.mp this).2]; rfl)
              | false => cases P.testBit i <;> rfl
            rw [h2] at h1
            omega
          obtain ⟨z2, g1, g2⟩ := x_ways hR hw hc hw2 hlen hl6 hst n (dp + 1) (P ||| F) z hsP (by omega) (by omega) hz
          rw [if_neg e3, bcT d6, ob_s, orI, show (1 : Int32) = nI 1 from rfl, nI_add, g1, ob_s, bcT F6, ob_s, x_places b16 bF, ob_s, thn_eq, lN_mul]
          have e4 : wy (B 0) w (ndE B e) (P ||| F) * plN (bts (bdf w P)) (bts F) = wy (B 0) w (ndE B e) P := by
            rw [wy_all h16 hw2 hs hFb, Nat.mul_comm]
          try dsimp only
          rw [e4]
          exact put z2 g2
end X
