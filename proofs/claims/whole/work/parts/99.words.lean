/-! TEXTS: words -/
def kw27 (i : Nat) : Nat := ([139474849, 12251, 8179, 375400, 394691, 411, 276647, 267413, 275695007, 10631, 664272, 256910, 47, 380068, 555, 237470, 11088176, 11522, 321581, 458690, 5878, 9454556, 2968, 91904, 453701, 247552, 4027, 388978] : List Nat).getD i 0
def kw32 (i : Nat) : Nat := ([322307524, 17076, 11449, 624435, 656741, 486, 460197, 442053, 643453317, 14836, 1265842, 427365, 52, 631088, 655, 394885, 21734501, 16052, 533611, 762030, 8243, 18523316, 4153, 149559, 754996, 409072, 5572, 643568] : List Nat).getD i 0
def cv : Nat → Nat → Nat
  | 0, _ => 0
  | k + 1, x => cv k (x / 27) * 32 + x % 27
def vc : Nat → Nat → Nat
  | 0, _ => 0
  | k + 1, y => vc k (y / 32) * 27 + y % 32
theorem cv_0 : ∀ k, cv k 0 = 0
  | 0 => rfl
  | k + 1 => by
    show cv k (0 / 27) * 32 + 0 % 27 = 0
    rw [Nat.zero_div, cv_0 k]
theorem vc_0 : ∀ k, vc k 0 = 0
  | 0 => rfl
  | k + 1 => by
    show vc k (0 / 32) * 27 + 0 % 32 = 0
    rw [Nat.zero_div, vc_0 k]
theorem cv_w {b : Nat → Nat} {p : Nat} : ∀ (n k : Nat), n ≤ k → (∀ i, i < n → 97 ≤ b (p + i) ∧ b (p + i) ≤ 122) → cv k (w27 b p n) = w32 b p n
  | 0, k, _, _ => cv_0 k
  | n + 1, k, h, hl => by
    obtain ⟨m, rfl⟩ := Nat.exists_eq_succ_of_ne_zero (show k ≠ 0 by omega)
    have hd := hl n (by omega)
    show cv m ((w27 b p n * 27 + (b (p + n) - 96)) / 27) * 32 + (w27 b p n * 27 + (b (p + n) - 96)) % 27 = w32 b p n * 32 + (b (p + n) - 96)
    rw [show (w27 b p n * 27 + (b (p + n) - 96)) / 27 = w27 b p n by omega, show (w27 b p n * 27 + (b (p + n) - 96)) % 27 = b (p + n) - 96 by omega, cv_w n m (by omega) (fun i hi => hl i (by omega))]
theorem vc_w {b : Nat → Nat} {p : Nat} : ∀ (n k : Nat), n ≤ k → (∀ i, i < n → 97 ≤ b (p + i) ∧ b (p + i) ≤ 122) → vc k (w32 b p n) = w27 b p n
  | 0, k, _, _ => vc_0 k
  | n + 1, k, h, hl => by
    obtain ⟨m, rfl⟩ := Nat.exists_eq_succ_of_ne_zero (show k ≠ 0 by omega)
    have hd := hl n (by omega)
    show vc m ((w32 b p n * 32 + (b (p + n) - 96)) / 32) * 27 + (w32 b p n * 32 + (b (p + n) - 96)) % 32 = w27 b p n * 27 + (b (p + n) - 96)
    rw [show (w32 b p n * 32 + (b (p + n) - 96)) / 32 = w32 b p n by omega, show (w32 b p n * 32 + (b (p + n) - 96)) % 32 = b (p + n) - 96 by omega, vc_w n m (by omega) (fun i hi => hl i (by omega))]
theorem w32_lt {b : Nat → Nat} {p : Nat} : ∀ (n : Nat), (∀ i, i < n → 97 ≤ b (p + i) ∧ b (p + i) ≤ 122) → w32 b p n < 32 ^ n
  | 0, _ => Nat.one_pos
  | n + 1, hl => by
    have hd := hl n (by omega)
    have ih := w32_lt n (fun i hi => hl i (by omega))
    show w32 b p n * 32 + (b (p + n) - 96) < 32 ^ (n + 1)
    rw [Nat.pow_succ]
    omega
theorem w27_lt {b : Nat → Nat} {p : Nat} : ∀ (n : Nat), (∀ i, i < n → 97 ≤ b (p + i) ∧ b (p + i) ≤ 122) → w27 b p n < 27 ^ n
  | 0, _ => Nat.one_pos
  | n + 1, hl => by
    have hd := hl n (by omega)
    have ih := w27_lt n (fun i hi => hl i (by omega))
    show w27 b p n * 27 + (b (p + n) - 96) < 27 ^ (n + 1)
    rw [Nat.pow_succ]
    omega
theorem kw_1 : chB 5 (fun i => (cv 8 (kw27 i) == kw32 i) && (vc 8 (kw32 i) == kw27 i) && decide (kw27 i < 2 ^ 50) && decide (kw32 i < 2 ^ 50)) 0 = true := by decide +kernel
theorem kw_2 : chB 5 (fun i => chB 5 (fun j => decide (28 ≤ i) || decide (28 ≤ j) || decide (i = j) || !(kw27 i == kw27 j)) 0) 0 = true := by decide +kernel
theorem kw_ok {i : Nat} (h : i < 28) : cv 8 (kw27 i) = kw32 i ∧ vc 8 (kw32 i) = kw27 i ∧ kw27 i < 2 ^ 50 ∧ kw32 i < 2 ^ 50 := by
  have k := chB_ok _ 5 0 kw_1 i (Nat.zero_le _) (by omega)
  have k1 := Bool.and_eq_true_iff.mp k
  have k2 := Bool.and_eq_true_iff.mp k1.1
  have k3 := Bool.and_eq_true_iff.mp k2.1
  exact ⟨beq_iff_eq.mp k3.1, beq_iff_eq.mp k3.2, of_decide_eq_true k2.2, of_decide_eq_true k1.2⟩
theorem kw_ne {i j : Nat} (hi : i < 28) (hj : j < 28) (h : kw27 i = kw27 j) : i = j := by
  have k := chB_ok _ 5 0 (chB_ok _ 5 0 kw_2 i (Nat.zero_le _) (by omega)) j (Nat.zero_le _) (by omega)
  rcases Bool.or_eq_true_iff.mp k with k | k
  · rcases Bool.or_eq_true_iff.mp k with k | k
    · rcases Bool.or_eq_true_iff.mp k with k | k
      · exact absurd (of_decide_eq_true k) (by omega)
      · exact absurd (of_decide_eq_true k) (by omega)
    · exact of_decide_eq_true k
  · rw [h, beq_self_eq_true] at k; cases k
/-- the class's table of words -/
def tbK (tb : Nat → Int64) : Prop := ∀ i, i < 28 → tb i = lN (kw27 i)
/-- the kind of the token that begins at st, the end's too -/
def kR (tb : Nat → Int64) (b : Nat → Nat) (e st : Nat) : Nat := if e ≤ st then 33 else kdC tb b e st
theorem lt_all {b : Nat → Nat} : ∀ (m p : Nat), ∀ i, p + i < scn (fun i => isLt (b i)) m p → 97 ≤ b (p + i) ∧ b (p + i) ≤ 122
  | 0, p, i, h => absurd h (by show ¬ p + i < p; omega)
  | m + 1, p, i, h => by
    have h' : p + i < if isLt (b p) = true then scn (fun i => isLt (b i)) m (p + 1) else p := h
    cases c : isLt (b p) with
    | false => rw [c, if_neg (by decide)] at h'; omega
    | true =>
      rw [c, if_pos rfl] at h'
      cases i with
      | zero => exact of_decide_eq_true c
      | succ i =>
        have := lt_all (b := b) m (p + 1) i (by omega)
        rw [show p + (i + 1) = p + 1 + i by omega]; exact this
section V
variable {s : RS} {b : Nat → Nat} {e st : Nat} {tb : Nat → Int64}
theorem kR_c (tb : Nat → Int64) (b : Nat → Nat) (e st : Nat) : (e ≤ st ∧ tkK b e st = 0 ∧ kR tb b e st = 33) ∨ (st < e ∧ isLt (b st) = true ∧ tkK b e st = 1 ∧ tkB b e st = tkW b e st ∧ kR tb b e st = if tkW b e st - st ≤ 8 then fsN (fun i => decide (tb i = lN (w27 b st (tkW b e st - st)))) 28 else 29) ∨ (st < e ∧ isLt (b st) = false ∧ isDg (b st) = true ∧ tkB b e st = tkD b e st ∧ ((tkD b e st - st ≤ 4 ∧ tkK b e st = 2 ∧ kR tb b e st = 30) ∨ (¬ tkD b e st - st ≤ 4 ∧ tkK b e st = 4 ∧ kR tb b e st = 32))) ∨ (st < e ∧ isLt (b st) = false ∧ isDg (b st) = false ∧ ((tkK b e st = 3 ∧ kR tb b e st = 31) ∨ (tkK b e st = 4 ∧ kR tb b e st = 32))) := by
  by_cases c : e ≤ st
  · left; exact ⟨c, by unfold tkK; rw [if_pos c], by unfold kR; rw [if_pos c]⟩
  · right
    cases cl : isLt (b st) with
    | true => left; exact ⟨by omega, rfl, by unfold tkK; rw [if_neg c, cl, if_pos rfl], by unfold tkB; rw [if_neg c, cl, if_pos rfl], by unfold kR kdC; rw [if_neg c, cl, if_pos rfl]⟩
    | false =>
      right
      cases cd : isDg (b st) with
      | true =>
        left
        refine ⟨by omega, rfl, rfl, by unfold tkB; rw [if_neg c, cl, if_neg Bool.false_ne_true, cd, if_pos rfl], ?_⟩
        by_cases c4 : tkD b e st - st ≤ 4
        · exact Or.inl ⟨c4, by unfold tkK; rw [if_neg c, cl, if_neg Bool.false_ne_true, cd, if_pos rfl, if_pos c4], by unfold kR kdC; rw [if_neg c, cl, if_neg Bool.false_ne_true, cd, if_pos rfl, if_pos c4]⟩
        · exact Or.inr ⟨c4, by unfold tkK; rw [if_neg c, cl, if_neg Bool.false_ne_true, cd, if_pos rfl, if_neg c4], by unfold kR kdC; rw [if_neg c, cl, if_neg Bool.false_ne_true, cd, if_pos rfl, if_neg c4]⟩
      | false =>
        right
        refine ⟨by omega, rfl, rfl, ?_⟩
        by_cases c9 : b st = 59
        · exact Or.inl ⟨by unfold tkK; rw [if_neg c, cl, if_neg Bool.false_ne_true, cd, if_neg Bool.false_ne_true, if_pos c9], by unfold kR kdC; rw [if_neg c, cl, if_neg Bool.false_ne_true, cd, if_neg Bool.false_ne_true, if_pos c9]⟩
        · exact Or.inr ⟨by unfold tkK; rw [if_neg c, cl, if_neg Bool.false_ne_true, cd, if_neg Bool.false_ne_true, if_neg c9], by unfold kR kdC; rw [if_neg c, cl, if_neg Bool.false_ne_true, cd, if_neg Bool.false_ne_true, if_neg c9]⟩
theorem r_isWord (hT : tbK tb) (ht : tokR b e st s) {i : Nat} (hi : i < 28) : pX12_isWord s (lN (kw32 i)) = some (decide (kR tb b e st = i)) := by
  obtain ⟨k1, k2, k3, k4⟩ := kw_ok hi
  unfold pX12_isWord
  rw [ht.2.1, show (1 : Int32) = nI 1 from rfl]
  have no : ∀ k n : Nat, tkK b e st = k → k ≤ 4 → k ≠ 1 → kR tb b e st = n → 28 ≤ n → (if nI (tkK b e st) = nI 1 then if s.2.1 19 = lN (kw32 i) then some true else some false else some false) = some (decide (kR tb b e st = i)) := fun k n h1 h4 h2 h3 h5 => by
    rw [h1, h3, ifE (by omega) (by omega), if_neg h2, decide_eq_false (by omega)]
  rcases kR_c tb b e st with ⟨_, h1, h2⟩ | ⟨hs, cl, h1, hB, h2⟩ | ⟨_, _, _, _, ⟨_, h1, h2⟩ | ⟨_, h1, h2⟩⟩ | ⟨_, _, _, ⟨h1, h2⟩ | ⟨h1, h2⟩⟩
  · exact no _ _ h1 (by omega) (by omega) h2 (by omega)
  · rw [h1, if_pos rfl, (ht.2.2.2.1 h1).2, hB]
    have la := lt_all (b := b) (e - st) st
    have hW := tkW_le (b := b) (e := e) (p := st) (by omega)
    have la' : ∀ i, i < tkW b e st - st → 97 ≤ b (st + i) ∧ b (st + i) ≤ 122 := fun i hi => la i (by show st + i < tkW b e st; omega)
    generalize tkW b e st - st = n at h2 la'
    unfold acL
    by_cases c8 : n ≤ 8
    · have e1 := cv_w n 8 c8 la'
      have e2 := vc_w n 8 c8 la'
      have l1 := w32_lt n la'
      have l2 := w27_lt n la'
      have p1 : 32 ^ n ≤ 32 ^ 8 := Nat.pow_le_pow_right (by decide) c8
      have p2 : 27 ^ n ≤ 27 ^ 8 := Nat.pow_le_pow_right (by decide) c8
      have q1 : (32 : Nat) ^ 8 = 1099511627776 := by decide
      have q2 : (27 : Nat) ^ 8 = 282429536481 := by decide
      rw [if_pos c8] at h2 ⊢
      have iff1 : lN (w32 b st n) = lN (kw32 i) ↔ w27 b st n = kw27 i := by
        rw [pk_lEQ (by omega) (by omega)]
        constructor
        · intro h; rw [← e2, h, k2]
        · intro h; rw [← e1, h, k1]
      have tbe : ∀ j, j < 28 → (tb j = lN (w27 b st n) ↔ kw27 j = w27 b st n) := fun j hj => by
        rw [hT j hj, pk_lEQ (by have := (kw_ok hj).2.2.1; omega) (by omega)]
      by_cases cw : w27 b st n = kw27 i
      · have fe : fsN (fun i => decide (tb i = lN (w27 b st n))) 28 = i := fsN_eq (by omega) (fun j hj => decide_eq_false (fun h => by
          have := (tbe j (by omega)).mp h
          have := kw_ne (by omega) hi (this.trans cw)
          omega)) (Or.inr (decide_eq_true ((tbe i hi).mpr cw.symm)))
        rw [if_pos (iff1.mpr cw), h2, fe, decide_eq_true rfl]
      · rw [if_neg (fun h => cw (iff1.mp h)), h2, decide_eq_false (fun h => by
          have hy := fsN_yes (fun i => decide (tb i = lN (w27 b st n))) 28 (by omega)
          rw [h] at hy
          exact cw ((tbe i hi).mp (of_decide_eq_true hy)).symm)]
    · rw [if_neg c8] at h2 ⊢
      rw [if_neg (fun h => by
        have hh : (-1 : Int64).toInt = (lN (kw32 i)).toInt := by rw [h]
        rw [pk_lT (by omega), show (-1 : Int64).toInt = -1 by decide] at hh
        omega), h2, decide_eq_false (by omega)]
  · exact no _ _ h1 (by omega) (by omega) h2 (by omega)
  · exact no _ _ h1 (by omega) (by omega) h2 (by omega)
  · exact no _ _ h1 (by omega) (by omega) h2 (by omega)
  · exact no _ _ h1 (by omega) (by omega) h2 (by omega)
theorem sp_0 : pX12_spelled (105 : Int32) (115 : Int32) (108 : Int32) (97 : Int32) (110 : Int32) (100 : Int32) = some (lN (kw32 0)) := by decide +kernel
theorem sp_1 : pX12_spelled (112 : Int32) (117 : Int32) (116 : Int32) (0 : Int32) (0 : Int32) (0 : Int32) = some (lN (kw32 1)) := by decide +kernel
theorem sp_2 : pX12_spelled (107 : Int32) (101 : Int32) (121 : Int32) (0 : Int32) (0 : Int32) (0 : Int32) = some (lN (kw32 2)) := by decide +kernel
theorem sp_3 : pX12_spelled (115 : Int32) (97 : Int32) (121 : Int32) (115 : Int32) (0 : Int32) (0 : Int32) = some (lN (kw32 3)) := by decide +kernel
theorem sp_4 : pX12_spelled (116 : Int32) (97 : Int32) (107 : Int32) (101 : Int32) (0 : Int32) (0 : Int32) = some (lN (kw32 4)) := by decide +kernel
theorem sp_5 : pX12_spelled (111 : Int32) (102 : Int32) (0 : Int32) (0 : Int32) (0 : Int32) (0 : Int32) = some (lN (kw32 5)) := by decide +kernel
theorem sp_6 : pX12_spelled (110 : Int32) (97 : Int32) (109 : Int32) (101 : Int32) (0 : Int32) (0 : Int32) = some (lN (kw32 6)) := by decide +kernel
theorem sp_7 : pX12_spelled (109 : Int32) (111 : Int32) (118 : Int32) (101 : Int32) (0 : Int32) (0 : Int32) = some (lN (kw32 7)) := by decide +kernel
theorem sp_8 : pX12_spelled (115 : Int32) (101 : Int32) (116 : Int32) (116 : Int32) (108 : Int32) (101 : Int32) = some (lN (kw32 8)) := by decide +kernel
theorem sp_9 : pX12_spelled (110 : Int32) (111 : Int32) (116 : Int32) (0 : Int32) (0 : Int32) (0 : Int32) = some (lN (kw32 9)) := by decide +kernel
theorem sp_10 : pX12_spelled (97 : Int32) (102 : Int32) (116 : Int32) (101 : Int32) (114 : Int32) (0 : Int32) = some (lN (kw32 10)) := by decide +kernel
theorem sp_11 : pX12_spelled (109 : Int32) (97 : Int32) (107 : Int32) (101 : Int32) (0 : Int32) (0 : Int32) = some (lN (kw32 11)) := by decide +kernel
theorem sp_12 : pX12_spelled (97 : Int32) (116 : Int32) (0 : Int32) (0 : Int32) (0 : Int32) (0 : Int32) = some (lN (kw32 12)) := by decide +kernel
theorem sp_13 : pX12_spelled (115 : Int32) (104 : Int32) (105 : Int32) (112 : Int32) (0 : Int32) (0 : Int32) = some (lN (kw32 13)) := by decide +kernel
theorem sp_14 : pX12_spelled (116 : Int32) (111 : Int32) (0 : Int32) (0 : Int32) (0 : Int32) (0 : Int32) = some (lN (kw32 14)) := by decide +kernel
theorem sp_15 : pX12_spelled (108 : Int32) (97 : Int32) (116 : Int32) (101 : Int32) (0 : Int32) (0 : Int32) = some (lN (kw32 15)) := by decide +kernel
theorem sp_16 : pX12_spelled (116 : Int32) (119 : Int32) (105 : Int32) (99 : Int32) (101 : Int32) (0 : Int32) = some (lN (kw32 16)) := by decide +kernel
theorem sp_17 : pX12_spelled (111 : Int32) (117 : Int32) (116 : Int32) (0 : Int32) (0 : Int32) (0 : Int32) = some (lN (kw32 17)) := by decide +kernel
theorem sp_18 : pX12_spelled (112 : Int32) (105 : Int32) (99 : Int32) (107 : Int32) (0 : Int32) (0 : Int32) = some (lN (kw32 18)) := by decide +kernel
theorem sp_19 : pX12_spelled (119 : Int32) (104 : Int32) (101 : Int32) (110 : Int32) (0 : Int32) (0 : Int32) = some (lN (kw32 19)) := by decide +kernel
theorem sp_20 : pX12_spelled (104 : Int32) (97 : Int32) (115 : Int32) (0 : Int32) (0 : Int32) (0 : Int32) = some (lN (kw32 20)) := by decide +kernel
theorem sp_21 : pX12_spelled (113 : Int32) (117 : Int32) (105 : Int32) (101 : Int32) (116 : Int32) (0 : Int32) = some (lN (kw32 21)) := by decide +kernel
theorem sp_22 : pX12_spelled (100 : Int32) (97 : Int32) (121 : Int32) (0 : Int32) (0 : Int32) (0 : Int32) = some (lN (kw32 22)) := by decide +kernel
theorem sp_23 : pX12_spelled (100 : Int32) (114 : Int32) (97 : Int32) (119 : Int32) (0 : Int32) (0 : Int32) = some (lN (kw32 23)) := by decide +kernel
theorem sp_24 : pX12_spelled (119 : Int32) (97 : Int32) (105 : Int32) (116 : Int32) (0 : Int32) (0 : Int32) = some (lN (kw32 24)) := by decide +kernel
theorem sp_25 : pX12_spelled (108 : Int32) (111 : Int32) (111 : Int32) (112 : Int32) (0 : Int32) (0 : Int32) = some (lN (kw32 25)) := by decide +kernel
theorem sp_26 : pX12_spelled (101 : Int32) (110 : Int32) (100 : Int32) (0 : Int32) (0 : Int32) (0 : Int32) = some (lN (kw32 26)) := by decide +kernel
theorem sp_27 : pX12_spelled (115 : Int32) (116 : Int32) (111 : Int32) (112 : Int32) (0 : Int32) (0 : Int32) = some (lN (kw32 27)) := by decide +kernel
theorem r_isIslandWord (hT : tbK tb) (ht : tokR b e st s) : pX12_isIslandWord s = some (decide (kR tb b e st = 0)) := by
  unfold pX12_isIslandWord
  rw [sp_0, ob_s, r_isWord hT ht (by omega), ob_s]
theorem r_isKey (hT : tbK tb) (ht : tokR b e st s) : pX12_isKey s = some (decide (kR tb b e st = 2)) := by
  unfold pX12_isKey
  rw [sp_2, ob_s, r_isWord hT ht (by omega), ob_s]
theorem r_isSays (hT : tbK tb) (ht : tokR b e st s) : pX12_isSays s = some (decide (kR tb b e st = 3)) := by
  unfold pX12_isSays
  rw [sp_3, ob_s, r_isWord hT ht (by omega), ob_s]
theorem r_isOf (hT : tbK tb) (ht : tokR b e st s) : pX12_isOf s = some (decide (kR tb b e st = 5)) := by
  unfold pX12_isOf
  rw [sp_5, ob_s, r_isWord hT ht (by omega), ob_s]
theorem r_isNot (hT : tbK tb) (ht : tokR b e st s) : pX12_isNot s = some (decide (kR tb b e st = 9)) := by
  unfold pX12_isNot
  rw [sp_9, ob_s, r_isWord hT ht (by omega), ob_s]
theorem r_isAfter (hT : tbK tb) (ht : tokR b e st s) : pX12_isAfter s = some (decide (kR tb b e st = 10)) := by
  unfold pX12_isAfter
  rw [sp_10, ob_s, r_isWord hT ht (by omega), ob_s]
theorem r_isAt (hT : tbK tb) (ht : tokR b e st s) : pX12_isAt s = some (decide (kR tb b e st = 12)) := by
  unfold pX12_isAt
  rw [sp_12, ob_s, r_isWord hT ht (by omega), ob_s]
theorem r_isTo (hT : tbK tb) (ht : tokR b e st s) : pX12_isTo s = some (decide (kR tb b e st = 14)) := by
  unfold pX12_isTo
  rw [sp_14, ob_s, r_isWord hT ht (by omega), ob_s]
theorem r_isLate (hT : tbK tb) (ht : tokR b e st s) : pX12_isLate s = some (decide (kR tb b e st = 15)) := by
  unfold pX12_isLate
  rw [sp_15, ob_s, r_isWord hT ht (by omega), ob_s]
theorem r_isTwice (hT : tbK tb) (ht : tokR b e st s) : pX12_isTwice s = some (decide (kR tb b e st = 16)) := by
  unfold pX12_isTwice
  rw [sp_16, ob_s, r_isWord hT ht (by omega), ob_s]
theorem r_isHas (hT : tbK tb) (ht : tokR b e st s) : pX12_isHas s = some (decide (kR tb b e st = 20)) := by
  unfold pX12_isHas
  rw [sp_20, ob_s, r_isWord hT ht (by omega), ob_s]
theorem r_isQuietWord (hT : tbK tb) (ht : tokR b e st s) : pX12_isQuietWord s = some (decide (kR tb b e st = 21)) := by
  unfold pX12_isQuietWord
  rw [sp_21, ob_s, r_isWord hT ht (by omega), ob_s]
theorem r_isDayWord (hT : tbK tb) (ht : tokR b e st s) : pX12_isDayWord s = some (decide (kR tb b e st = 22)) := by
  unfold pX12_isDayWord
  rw [sp_22, ob_s, r_isWord hT ht (by omega), ob_s]
theorem r_isEnd (hT : tbK tb) (ht : tokR b e st s) : pX12_isEnd s = some (decide (kR tb b e st = 26)) := by
  unfold pX12_isEnd
  rw [sp_26, ob_s, r_isWord hT ht (by omega), ob_s]
end V
