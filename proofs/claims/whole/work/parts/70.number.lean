/-! ORDERS: the number of one, in the class -/
section X
variable {B : Nat → Nat} {r q s3 : RS} {st len n : Nat} {O : Nat → Nat}
theorem x_numF (hR : bkR B r) (hw : wfB B) (hO : orW B n O) (ho : orC s3 n O) (hc : cnR B (opf O n) none st q) (hlen : opf O n < len) (hl6 : len ≤ 65536) (hst : st < 2 ^ 18) {z : RS} (hz : mmR len st (wy (B 0) (opf O n) (ndE B none)) z) : ∃ z', a_loop (fun (y : Int32 × Int64 × Int32 × RS) => X5_numberOfF_b55 (nI n) y.1 y.2.1 y.2.2.1 q r y.2.2.2 s3) FU ((0 : Int32), (0 : Int64), (0 : Int32), z) = some (lN (nbN B n O), z') ∧ mmR len st (wy (B 0) (opf O n) (ndE B none)) z' := by
  have h16 := hw.1
  have n16 := hO.1
  have w2 := opf_lt hO n (Nat.le_refl _)
  have w6 : opf O n < 65536 := by omega
  obtain ⟨x, g1, z', g2, g3⟩ := lp_m (body := fun (y : Int32 × Int64 × Int32 × RS) => X5_numberOfF_b55 (nI n) y.1 y.2.1 y.2.2.1 q r y.2.2.2 s3) (I := fun m y => ∃ i z', i ≤ n ∧ m = n - i ∧ y = (nI (opf O i), lN (smN (fun i => smN (gS (B 0) (opf O n) (ndE B none) (opf O i)) (O i)) i), nI i, z') ∧ mmR len st (wy (B 0) (opf O n) (ndE B none)) z') (P := fun x => ∃ z', x = (lN (nbN B n O), z') ∧ mmR len st (wy (B 0) (opf O n) (ndE B none)) z') (fun m y hi => by
    obtain ⟨i, z', hi, rfl, rfl, hz'⟩ := hi
    dsimp only [X5_numberOfF_b55]
    rcases Nat.lt_or_eq_of_le hi with c | c
    · left
      have oi := (hO.2 i c).1
      have P6 : opf O i < 65536 := by
        have := opf_lt hO i hi
        have p16 : 2 ^ B 0 ≤ 2 ^ 16 := Nat.pow_le_pow_right (by decide) h16
        omega
      have d6 : bdf (opf O n) (opf O i) < 65536 := bdf_lt (n := 16) w6
      have hsi := opf_sub O hi
      have inner : ∀ acc : Nat, ∃ z2, a_loop (fun (y : Int64 × Int32 × RS) => X5_numberOfF_b71 (nI n) (nI (opf O i)) (nI i) y.1 y.2.1 q r y.2.2 s3) FU (lN acc, (0 : Int32), z') = some (lN (acc + smN (gS (B 0) (opf O n) (ndE B none) (opf O i)) (O i)), z2) ∧ mmR len st (wy (B 0) (opf O n) (ndE B none)) z2 := by
        intro acc
        obtain ⟨x, k1, z2, k2, k3⟩ := lp_m (body := fun (y : Int64 × Int32 × RS) => X5_numberOfF_b71 (nI n) (nI (opf O i)) (nI i) y.1 y.2.1 q r y.2.2 s3) (I := fun m y => ∃ k z2, k ≤ O i ∧ m = O i - k ∧ y = (lN (acc + smN (gS (B 0) (opf O n) (ndE B none) (opf O i)) k), nI k, z2) ∧ mmR len st (wy (B 0) (opf O n) (ndE B none)) z2) (P := fun x => ∃ z2, x = (lN (acc + smN (gS (B 0) (opf O n) (ndE B none) (opf O i)) (O i)), z2) ∧ mmR len st (wy (B 0) (opf O n) (ndE B none)) z2) (fun m y hi => by
          obtain ⟨k, z2, hk, rfl, rfl, hz2⟩ := hi
          dsimp only [X5_numberOfF_b71, X5_numberOfF_j125]
          rw [g_inT (by omega) (by omega), nI_clamp (by omega), ho.2 i c]
          rcases Nat.lt_or_eq_of_le hk with d | d
          · left
            rw [if_neg (nI_ge d (by omega)), hc.1, show (-1 : Int32) = m1I from rfl, dfI, isInT (by omega) (by omega), ob_s, x_isReady hR hw hc (by omega) P6, ob_s, bdf_tb, show (1 : Int32) <<< (nI k &&& 31) = nI (2 ^ k) from s1I (by omega), orI]
            have hg : gS (B 0) (opf O n) (ndE B none) (opf O i) k = if rdy (opf O n) (ndE B none) (opf O i) k then wy (B 0) (opf O n) (ndE B none) (opf O i ||| 2 ^ k) else 0 := rfl
            by_cases rr : rdy (opf O n) (ndE B none) (opf O i) k = true
            · obtain ⟨r1, r2, r3⟩ := rdy_w rr
              obtain ⟨z3, j1, j2⟩ := x_ways hR hw hc w2 hlen hl6 hst 20 0 (opf O i ||| 2 ^ k) z2 (sb_or hsi r1) (Nat.zero_le _) (by omega) hz2
              have j1' : pX5_waysBehind 20 q r z2 (nI (opf O i ||| 2 ^ k)) (0 : Int32) = some (lN (wy (B 0) (opf O n) (ndE B none) (opf O i ||| 2 ^ k)), z3) := j1
              have r3' : (bdf (ndE B none k) (opf O i) == 0) = true := by simpa using r3
              rw [rr, if_pos rfl] at hg
              refine ⟨O i - (k + 1), _, by omega, ⟨k + 1, z3, by omega, rfl, rfl, j2⟩, ?_⟩
              rw [r1, r2, r3', j1', ob_s, smN_s, hg]
              simp only [thn_eq, nI_1, lN_add, Nat.add_assoc]
              rfl
            · rw [if_neg rr] at hg
              refine ⟨O i - (k + 1), _, by omega, ⟨k + 1, z2, by omega, rfl, rfl, hz2⟩, ?_⟩
              rw [smN_s, hg]
              unfold rdy at rr
              simp only [thn_eq, nI_1]
              cases c1 : (opf O n).testBit k with
              | false => rfl
              | true =>
                cases c2 : (opf O i).testBit k with
                | true => rfl
                | false =>
                  have c3 : (bdf (ndE B none k) (opf O i) == 0) = false := by
                    rw [c1, c2] at rr
                    simpa using rr
                  rw [c3]; rfl
          · subst d
            right
            refine ⟨_, ⟨z2, rfl, hz2⟩, ?_⟩
            rw [if_pos (nI_le (Nat.le_refl _) (by omega))]) FU (O i) (lN acc, nI 0, z') (by show O i < 100000; omega) ⟨0, z', Nat.zero_le _, rfl, rfl, hz'⟩
        exact ⟨z2, by rw [← k2]; exact k1, k3⟩
      obtain ⟨z2, p1, p2⟩ := inner (smN (fun i => smN (gS (B 0) (opf O n) (ndE B none) (opf O i)) (O i)) i)
      refine ⟨n - (i + 1), (nI (opf O (i + 1)), lN (smN (fun i => smN (gS (B 0) (opf O n) (ndE B none) (opf O i)) (O i)) (i + 1)), nI (i + 1), z2), by omega, ⟨i + 1, z2, by omega, rfl, rfl, p2⟩, ?_⟩
      rw [if_neg (nI_ge c (by omega)), if_neg (show ¬ (16 : Int32) ≤ nI i from nI_ge (b := 16) (by omega) (by omega)), p1, ob_s, g_inT (by omega) (by omega), nI_clamp (by omega), ho.2 i c, show (1 : Int32) <<< (nI (O i) &&& 31) = nI (2 ^ O i) from s1I (by omega), orI, thn_eq, thn_eq, nI_1, smN_s]
      rfl
    · subst c
      right
      refine ⟨_, ⟨z', rfl, hz'⟩, ?_⟩
      rw [if_pos (nI_le (Nat.le_refl _) (by omega))]; rfl) FU n (nI 0, lN 0, nI 0, z) (by show n < 100000; omega) ⟨0, z, Nat.zero_le _, rfl, rfl, hz⟩
  exact ⟨z', by rw [← g2]; exact g1, g3⟩
theorem x_numGt (hR : bkR B r) (hw : wfB B) (hO : orW B n O) (ho : orC s3 n O) (hc : cnR B (opf O n) none st q) (hlen : opf O n < len) (hl6 : len ≤ 65536) (hst : st < 2 ^ 18) {z : RS} (hz : mmR len st (wy (B 0) (opf O n) (ndE B none)) z) : ∃ z', a_loop (fun (y : Int32 × Int64 × Int32 × RS) => X5_numberOfGt_b55 (nI n) y.1 y.2.1 y.2.2.1 q r y.2.2.2 s3) FU ((0 : Int32), (0 : Int64), (0 : Int32), z) = some (lN (nbN B n O), z') ∧ mmR len st (wy (B 0) (opf O n) (ndE B none)) z' := by
  have h16 := hw.1
  have n16 := hO.1
  have w2 := opf_lt hO n (Nat.le_refl _)
  have w6 : opf O n < 65536 := by omega
  obtain ⟨x, g1, z', g2, g3⟩ := lp_m (body := fun (y : Int32 × Int64 × Int32 × RS) => X5_numberOfGt_b55 (nI n) y.1 y.2.1 y.2.2.1 q r y.2.2.2 s3) (I := fun m y => ∃ i z', i ≤ n ∧ m = n - i ∧ y = (nI (opf O i), lN (smN (fun i => smN (gS (B 0) (opf O n) (ndE B none) (opf O i)) (O i)) i), nI i, z') ∧ mmR len st (wy (B 0) (opf O n) (ndE B none)) z') (P := fun x => ∃ z', x = (lN (nbN B n O), z') ∧ mmR len st (wy (B 0) (opf O n) (ndE B none)) z') (fun m y hi => by
    obtain ⟨i, z', hi, rfl, rfl, hz'⟩ := hi
    dsimp only [X5_numberOfGt_b55]
    rcases Nat.lt_or_eq_of_le hi with c | c
    · left
      have oi := (hO.2 i c).1
      have P6 : opf O i < 65536 := by
        have := opf_lt hO i hi
        have p16 : 2 ^ B 0 ≤ 2 ^ 16 := Nat.pow_le_pow_right (by decide) h16
        omega
      have d6 : bdf (opf O n) (opf O i) < 65536 := bdf_lt (n := 16) w6
      have hsi := opf_sub O hi
      have inner : ∀ acc : Nat, ∃ z2, a_loop (fun (y : Int64 × Int32 × RS) => X5_numberOfGt_b71 (nI n) (nI (opf O i)) (nI i) y.1 y.2.1 q r y.2.2 s3) FU (lN acc, (0 : Int32), z') = some (lN (acc + smN (gS (B 0) (opf O n) (ndE B none) (opf O i)) (O i)), z2) ∧ mmR len st (wy (B 0) (opf O n) (ndE B none)) z2 := by
        intro acc
        obtain ⟨x, k1, z2, k2, k3⟩ := lp_m (body := fun (y : Int64 × Int32 × RS) => X5_numberOfGt_b71 (nI n) (nI (opf O i)) (nI i) y.1 y.2.1 q r y.2.2 s3) (I := fun m y => ∃ k z2, k ≤ O i ∧ m = O i - k ∧ y = (lN (acc + smN (gS (B 0) (opf O n) (ndE B none) (opf O i)) k), nI k, z2) ∧ mmR len st (wy (B 0) (opf O n) (ndE B none)) z2) (P := fun x => ∃ z2, x = (lN (acc + smN (gS (B 0) (opf O n) (ndE B none) (opf O i)) (O i)), z2) ∧ mmR len st (wy (B 0) (opf O n) (ndE B none)) z2) (fun m y hi => by
          obtain ⟨k, z2, hk, rfl, rfl, hz2⟩ := hi
          dsimp only [X5_numberOfGt_b71, X5_numberOfGt_j125]
          rw [g_inT (by omega) (by omega), nI_clamp (by omega), ho.2 i c]
          rcases Nat.lt_or_eq_of_le hk with d | d
          · left
            rw [if_neg (nI_ge d (by omega)), hc.1, show (-1 : Int32) = m1I from rfl, dfI, isInT (by omega) (by omega), ob_s, x_isReady hR hw hc (by omega) P6, ob_s, bdf_tb, show (1 : Int32) <<< (nI k &&& 31) = nI (2 ^ k) from s1I (by omega), orI]
            have hg : gS (B 0) (opf O n) (ndE B none) (opf O i) k = if rdy (opf O n) (ndE B none) (opf O i) k then wy (B 0) (opf O n) (ndE B none) (opf O i ||| 2 ^ k) else 0 := rfl
            by_cases rr : rdy (opf O n) (ndE B none) (opf O i) k = true
            · obtain ⟨r1, r2, r3⟩ := rdy_w rr
              obtain ⟨z3, j1, j2⟩ := x_ways hR hw hc w2 hlen hl6 hst 20 0 (opf O i ||| 2 ^ k) z2 (sb_or hsi r1) (Nat.zero_le _) (by omega) hz2
              have j1' : pX5_waysBehind 20 q r z2 (nI (opf O i ||| 2 ^ k)) (0 : Int32) = some (lN (wy (B 0) (opf O n) (ndE B none) (opf O i ||| 2 ^ k)), z3) := j1
              have r3' : (bdf (ndE B none k) (opf O i) == 0) = true := by simpa using r3
              rw [rr, if_pos rfl] at hg
              refine ⟨O i - (k + 1), _, by omega, ⟨k + 1, z3, by omega, rfl, rfl, j2⟩, ?_⟩
              rw [r1, r2, r3', j1', ob_s, smN_s, hg]
              simp only [thn_eq, nI_1, lN_add, Nat.add_assoc]
              rfl
            · rw [if_neg rr] at hg
              refine ⟨O i - (k + 1), _, by omega, ⟨k + 1, z2, by omega, rfl, rfl, hz2⟩, ?_⟩
              rw [smN_s, hg]
              unfold rdy at rr
              simp only [thn_eq, nI_1]
              cases c1 : (opf O n).testBit k with
              | false => rfl
              | true =>
                cases c2 : (opf O i).testBit k with
                | true => rfl
                | false =>
                  have c3 : (bdf (ndE B none k) (opf O i) == 0) = false := by
                    rw [c1, c2] at rr
                    simpa using rr
                  rw [c3]; rfl
          · subst d
            right
            refine ⟨_, ⟨z2, rfl, hz2⟩, ?_⟩
            rw [if_pos (nI_le (Nat.le_refl _) (by omega))]) FU (O i) (lN acc, nI 0, z') (by show O i < 100000; omega) ⟨0, z', Nat.zero_le _, rfl, rfl, hz'⟩
        exact ⟨z2, by rw [← k2]; exact k1, k3⟩
      obtain ⟨z2, p1, p2⟩ := inner (smN (fun i => smN (gS (B 0) (opf O n) (ndE B none) (opf O i)) (O i)) i)
      refine ⟨n - (i + 1), (nI (opf O (i + 1)), lN (smN (fun i => smN (gS (B 0) (opf O n) (ndE B none) (opf O i)) (O i)) (i + 1)), nI (i + 1), z2), by omega, ⟨i + 1, z2, by omega, rfl, rfl, p2⟩, ?_⟩
      rw [if_neg (nI_ge c (by omega)), if_neg (show ¬ (16 : Int32) ≤ nI i from nI_ge (b := 16) (by omega) (by omega)), p1, ob_s, g_inT (by omega) (by omega), nI_clamp (by omega), ho.2 i c, show (1 : Int32) <<< (nI (O i) &&& 31) = nI (2 ^ O i) from s1I (by omega), orI, thn_eq, thn_eq, nI_1, smN_s]
      rfl
    · subst c
      right
      refine ⟨_, ⟨z', rfl, hz'⟩, ?_⟩
      rw [if_pos (nI_le (Nat.le_refl _) (by omega))]; rfl) FU n (nI 0, lN 0, nI 0, z) (by show n < 100000; omega) ⟨0, z, Nat.zero_le _, rfl, rfl, hz⟩
  exact ⟨z', by rw [← g2]; exact g1, g3⟩

theorem x_wholeF (hw : wfB B) (hO : orW B n O) (ho : orC s3 n O) (s0 s1 s2 : RS) : a_loop (fun (y : Int32 × Int32) => X5_numberOfF_b6 (nI n) y.1 y.2 s0 s1 s2 s3) FU ((0 : Int32), (0 : Int32)) = some (nI (opf O n)) := by
  have h16 := hw.1
  have n16 := hO.1
  refine lp_acc (fun k => opf O k) n (by omega) (fun k hk => ?_) ?_
  · dsimp only [X5_numberOfF_b6]
    have := (hO.2 k hk).1
    rw [if_neg (nI_ge hk (by omega)), if_neg (show ¬ (16 : Int32) ≤ nI k from nI_ge (b := 16) (by omega) (by omega)), g_inT (by omega) (by omega), nI_clamp (by omega), ho.2 k hk, show (1 : Int32) <<< (nI (O k) &&& 31) = nI (2 ^ O k) from s1I (by omega), orI, thn_eq, thn_eq, nI_1]; rfl
  · dsimp only [X5_numberOfF_b6]
    rw [if_pos (nI_le (Nat.le_refl _) (by omega))]
theorem x_wholeGh (hw : wfB B) (hO : orW B n O) (ho : orC s3 n O) (s0 s1 s2 : RS) : a_loop (fun (y : Int32 × Int32) => X5_numberOfGh_b6 (nI n) y.1 y.2 s0 s1 s2 s3) FU ((0 : Int32), (0 : Int32)) = some (nI (opf O n)) := by
  have h16 := hw.1
  have n16 := hO.1
  refine lp_acc (fun k => opf O k) n (by omega) (fun k hk => ?_) ?_
  · dsimp only [X5_numberOfGh_b6]
    have := (hO.2 k hk).1
    rw [if_neg (nI_ge hk (by omega)), if_neg (show ¬ (16 : Int32) ≤ nI k from nI_ge (b := 16) (by omega) (by omega)), g_inT (by omega) (by omega), nI_clamp (by omega), ho.2 k hk, show (1 : Int32) <<< (nI (O k) &&& 31) = nI (2 ^ O k) from s1I (by omega), orI, thn_eq, thn_eq, nI_1]; rfl
  · dsimp only [X5_numberOfGh_b6]
    rw [if_pos (nI_le (Nat.le_refl _) (by omega))]

end X
section Q
variable {s r : RS} {B : Nat → Nat} {s0 s1 s3 s4 : RS} {len st n : Nat} {O : Nat → Nat}
theorem q_number (hB : blk (s.2.2.1 4) 0 B) (hw : wfB B) (hR : bkR B r) (hO : orW B n O) (ho : orR (s.2.2.1 4) n O) (ho1 : orC s1 n O) (hc : ctR len st s3 s4) (hst : st + 1 < 262144) :
    (∃ a s' q z, pX12_number s = some (a, s') ∧ rsame s s' ∧ pX11_numberF s0 s1 r s3 s4 = some (a, uI s0 11 (s'.1 0), q, z) ∧ (∃ st', st' ≤ st + 1 ∧ ctR len st' q z)) ∨
    (∃ a s' q z, pX12_number s = some (a, s') ∧ rsame s s' ∧ pX11_numberG s0 s1 r s3 s4 = some (nI (2 ^ B 0), a, uI s0 11 (s'.1 0), q, z) ∧ ctR (2 ^ B 0) 1 q z ∧ len < 2 ^ B 0) := by
  have h16 := hw.1
  have w2 := opf_lt hO n (Nat.le_refl _)
  have cl := opf_lk hO n (Nat.le_refl _)
  have p16 : 2 ^ B 0 ≤ 2 ^ 16 := Nat.pow_le_pow_right (by decide) h16
  obtain ⟨u1, u2, k1, k2, k3, k4, k5, k6⟩ := r_count (s := uI (uI s 1 0) 0 0) (e := none) hB hw (fun ab h => by cases h) w2 cl
  have k1' : pX12_need (uI (uI s 1 0) 0 0) (nI (opf O n)) (-1 : Int32) (-1 : Int32) = some u1 := k1
  have rs : rsame s u2 := rs_sxB (rs_sx (rq_2 _ _ _) k3 (by decide)) k4 (by decide)
  have st0 : u2.1 0 = 0 := by rw [k4.1, k3.1]; rfl
  have hou : orR (u2.2.2.1 4) n O := by rw [rs.2.2.1.2.2.2.1]; exact ho
  have eR : pX12_number s = some (lN (nbN B n O), u2) := by
    unfold pX12_number
    simp only [thn_eq]
    rw [r_orderSet (s := uI (uI s 1 0) 0 0) ho hw hO, ob_s, k1', ob_s, k2, ob_s]
    exact bd (r_number hou hw hO k5 k6) rfl
  rcases Nat.lt_or_ge (opf O n) len with c | c
  · left
    obtain ⟨q, z, g1, g2, g3, g4⟩ := x_countF (e := none) hR hw (fun ab h => by cases h) hc hst w2 c
    have g1' : pX5_countOrdersWithF s3 r s4 (nI (opf O n)) (-1 : Int32) (-1 : Int32) = some (lN (wy (B 0) (opf O n) (ndE B none) 0), q, z) := g1
    obtain ⟨z', j1, j2⟩ := x_numF hR hw hO ho1 g2 c hc.2.2.2 (by omega) g3
    refine ⟨_, u2, q, z', eR, rs, ?_, ⟨st + 1, by omega, g4.1, mm_dn j2, g4.2.2⟩⟩
    unfold pX11_numberF pX5_numberOfF X5_numberOfF_j36
    rw [ho1.1, x_wholeF hw hO ho1, ob_s, g1', ob_s]
    simp only [thn_eq]
    rw [j1, ob_s, ob_s, st0]; rfl
  · right
    obtain ⟨q, z, g1, g2, g3, g4⟩ := x_countG (e := none) hR hw (fun ab h => by cases h) hc w2 c
    have g1' : pX5_countOrdersWithG s3 r s4 (nI (opf O n)) (-1 : Int32) (-1 : Int32) = some (nI (2 ^ B 0), lN (wy (B 0) (opf O n) (ndE B none) 0), q, z) := g1
    obtain ⟨z', j1, j2⟩ := x_numGt hR hw hO ho1 g2 w2 g4.2.2.2 (by decide) g3
    refine ⟨_, u2, q, z', eR, rs, ?_, ⟨g4.1, mm_dn j2, g4.2.2⟩, by omega⟩
    unfold pX11_numberG pX11_numberGh pX5_numberOfG pX5_numberOfGh X5_numberOfGh_j36
    rw [ob_s, ho1.1, x_wholeGh hw hO ho1, ob_s, ob_s]
    try dsimp only
    rw [g1', ob_s]
    try dsimp only
    unfold pX5_numberOfGt
    simp only [thn_eq]
    rw [j1, ob_s, ob_s, ob_s, st0]; rfl
end Q
