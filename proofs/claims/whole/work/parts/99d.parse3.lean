/-! TEXTS: numbers and names, both ways; the reference after a fault -/
theorem dg_all {b : Nat → Nat} : ∀ (m p : Nat), ∀ i, p + i < scn (fun i => isDg (b i)) m p → 48 ≤ b (p + i) ∧ b (p + i) ≤ 57
  | 0, p, i, h => absurd h (by show ¬ p + i < p; omega)
  | m + 1, p, i, h => by
    have h' : p + i < if isDg (b p) = true then scn (fun i => isDg (b i)) m (p + 1) else p := h
    cases c : isDg (b p) with
    | false => rw [c, if_neg (by decide)] at h'; omega
    | true =>
      rw [c, if_pos rfl] at h'
      cases i with
      | zero => exact of_decide_eq_true c
      | succ i =>
        have := dg_all (b := b) m (p + 1) i (by omega)
        rw [show p + (i + 1) = p + 1 + i by omega]; exact this
theorem w10_lt {b : Nat → Nat} {p : Nat} : ∀ (n : Nat), (∀ i, i < n → 48 ≤ b (p + i) ∧ b (p + i) ≤ 57) → w10 b p n < 10 ^ n
  | 0, _ => Nat.one_pos
  | n + 1, hl => by
    have hd := hl n (by omega)
    have ih := w10_lt n (fun i hi => hl i (by omega))
    show w10 b p n * 10 + (b (p + n) - 48) < 10 ^ (n + 1)
    rw [Nat.pow_succ]
    omega
/-- a name: its code in the class -/
def nok (x : Nat) : Prop := vc 8 (cv 8 x) = x ∧ x < 2 ^ 50 ∧ cv 8 x < 2 ^ 50
section V
variable {s q r : RS} {b : Nat → Nat} {e T j : Nat} {tb : Nat → Int64}
/-- a token that is a number -/
theorem p_num (h : prR tb b e T j s q) (hk : kJ tb b e j = 30) : ∃ v, v < 10000 ∧ s.1 17 = nI v ∧ q.2.2.2 8 j = lN v := by
  have hj := kJ_lt h (by omega)
  obtain ⟨_, _, h2, ⟨l1, l2, l3, l4, l5, l6, l7, l8⟩, h10, _⟩ := h
  have t := l6 j hj
  unfold kJ at hk
  rcases kR_c tb b e (tsq b e j) with ⟨_, g1, g2⟩ | ⟨hs, cl, g1, hB, g2⟩ | ⟨_, cl, cd, hB, ⟨c4, g1, g2⟩ | ⟨_, g1, g2⟩⟩ | ⟨_, _, _, ⟨g1, g2⟩ | ⟨g1, g2⟩⟩
  · omega
  · exfalso
    have l := fsN_le (fun i => decide (tb i = lN (w27 b (tsq b e j) (tkW b e (tsq b e j) - tsq b e j)))) 28
    rw [hk] at g2
    by_cases c : tkW b e (tsq b e j) - tsq b e j ≤ 8
    · rw [if_pos c] at g2; omega
    · rw [if_neg c] at g2; omega
  · refine ⟨acD b (tsq b e j) (tkD b e (tsq b e j) - tsq b e j), ?_, ?_, ?_⟩
    · unfold acD
      rw [if_pos c4]
      have la := w10_lt (b := b) (p := tsq b e j) (tkD b e (tsq b e j) - tsq b e j) (fun i hi => dg_all (b := b) (e - tsq b e j) (tsq b e j) i (by show tsq b e j + i < tkD b e (tsq b e j); omega))
      have p1 : 10 ^ (tkD b e (tsq b e j) - tsq b e j) ≤ 10 ^ 4 := Nat.pow_le_pow_right (by decide) c4
      have q1 : (10 : Nat) ^ 4 = 10000 := by decide
      omega
    · rw [h2.2.2.2.2 g1, hB]
    · exact t.2.2.2.2 cl cd
  · omega
  · omega
  · omega
/-- a token that is a name -/
theorem p_word (h : prR tb b e T j s q) (hk : kJ tb b e j = 28) : ∃ x, nok x ∧ s.2.1 19 = lN (cv 8 x) ∧ q.2.2.2 8 j = lN x := by
  have hj := kJ_lt h (by omega)
  obtain ⟨_, _, h2, ⟨l1, l2, l3, l4, l5, l6, l7, l8⟩, h10, _⟩ := h
  have t := l6 j hj
  unfold kJ at hk
  rcases kR_c tb b e (tsq b e j) with ⟨_, g1, g2⟩ | ⟨hs, cl, g1, hB, g2⟩ | ⟨_, cl, cd, hB, ⟨c4, g1, g2⟩ | ⟨_, g1, g2⟩⟩ | ⟨_, _, _, ⟨g1, g2⟩ | ⟨g1, g2⟩⟩
  · omega
  · by_cases c8 : tkW b e (tsq b e j) - tsq b e j ≤ 8
    · have la : ∀ i, i < tkW b e (tsq b e j) - tsq b e j → 97 ≤ b (tsq b e j + i) ∧ b (tsq b e j + i) ≤ 122 := fun i hi => lt_all (b := b) (e - tsq b e j) (tsq b e j) i (by show tsq b e j + i < tkW b e (tsq b e j); omega)
      have a1 := t.2.2.2.1 cl
      have a2 := (h2.2.2.2.1 g1).2
      rw [hB] at a2
      unfold a27 at a1
      unfold acL at a2
      rw [if_pos c8] at a1 a2
      generalize tkW b e (tsq b e j) - tsq b e j = n at *
      have e1 := cv_w n 8 c8 la
      have e2 := vc_w n 8 c8 la
      have m1 := w32_lt n la
      have m2 := w27_lt n la
      have p1 : 32 ^ n ≤ 32 ^ 8 := Nat.pow_le_pow_right (by decide) c8
      have p2 : 27 ^ n ≤ 27 ^ 8 := Nat.pow_le_pow_right (by decide) c8
      have q1 : (32 : Nat) ^ 8 = 1099511627776 := by decide
      have q2 : (27 : Nat) ^ 8 = 282429536481 := by decide
      exact ⟨w27 b (tsq b e j) n, ⟨by rw [e1, e2], by omega, by rw [e1]; omega⟩, by rw [a2, e1], a1⟩
    · rw [if_neg c8, hk] at g2; omega
  · omega
  · omega
  · omega
  · omega
/-- a number between lo and hi is wanted -/
theorem p_count (h : prR tb b e T j s q) (h12 : s.1 12 = nI 0) {lo hi : Nat} (hh : hi < 100000) (hl : lo ≤ hi) : (∃ v s', lo ≤ v ∧ v ≤ hi ∧ pX12_count s (nI lo) (nI hi) = some (nI v, s') ∧ pX8_passNumber q (nI lo) (nI hi) = some (nI v, uI q 10 (nI (j + 1))) ∧ prR tb b e T (j + 1) s' (uI q 10 (nI (j + 1))) ∧ nxS s s') ∨ ∃ f, 1 ≤ f ∧ f ≤ 7 ∧ pX12_count s (nI lo) (nI hi) = some (nI 0, fltR f (tsq b e j) s) ∧ pX8_passNumber q (nI lo) (nI hi) = some (m1I, fltX f (tsq b e j) q) := by
  have kh := x_kindHere h
  have tk := (r_tok h).2.2.1
  have hle' : kJ tb b e j ≤ 33 := kR_le tb b e (tsq b e j)
  have h10 := h.2.2.2.2.1
  have hj := h.2.2.2.2.2
  have l3 := h.2.2.2.1.2.2.1
  unfold pX8_kindHere at kh
  rw [h10, g_inT (by omega) (by omega), nI_clamp (by omega)] at kh
  have kh' : q.2.2.1 6 j = nI (kJ tb b e j) := Option.some.inj kh
  have bad : ∀ f st : Nat, 1 ≤ f → f ≤ 7 → X12_count_j50 (fltR f st s) = some (nI 0, fltR f st s) := fun f st h1 h2 => by
    unfold X12_count_j50
    rw [show (fltR f st s).1 12 = nI f from rfl, if_neg (show ¬ nI f ≤ (0 : Int32) from nI_ge (a := 0) (by omega) (by omega))]; rfl
  have badj : ∀ f st : Nat, 1 ≤ f → f ≤ 7 → X12_count_j19 (nI lo) (nI hi) (fltR f st s) = some (nI 0, fltR f st s) := fun f st h1 h2 => by
    unfold X12_count_j19
    rw [show (fltR f st s).1 12 = nI f from rfl, if_neg (show ¬ nI f = (0 : Int32) from fun x => by have := (nI_eq (b := 0) (by omega) (by omega)).mp x; omega), bad f st h1 h2]
  unfold pX12_count pX8_passNumber
  rw [h12, if_pos (show nI 0 = (0 : Int32) from rfl), h10, g_inT (by omega) (by omega), nI_clamp (by omega), kh', show (30 : Int32) = nI 30 from rfl, ifE (by omega) (by omega)]
  by_cases c : kJ tb b e j = 30
  · obtain ⟨v, v1, v2, v3⟩ := p_num h c
    rw [if_pos (show s.1 14 = (2 : Int32) from tk.mpr c), if_pos c, v3, lN_i, g_inT (by omega) (by omega), thn_eq]
    unfold X12_count_j19 X8_passNumber_j42
    rw [h12, if_pos (show nI 0 = (0 : Int32) from rfl), v2, isIn_w, ifLt (by omega) (by omega), ifLt (by omega) (by omega), ifLt (by omega) (by omega), ifLe (by omega) (by omega)]
    obtain ⟨F1, F2⟩ := p_fail h h12 4
    by_cases c1 : v < lo
    · right
      refine ⟨4, by omega, by omega, ?_, ?_⟩
      · rw [if_pos c1, ob_s, if_neg (by decide), show (4 : Int32) = nI 4 from rfl, F1, ob_s, bad 4 _ (by omega) (by omega)]
      · rw [if_pos c1, show (4 : Int32) = nI 4 from rfl, F2, ob_s]; rfl
    · by_cases c2 : hi < v
      · right
        refine ⟨4, by omega, by omega, ?_, ?_⟩
        · rw [if_neg c1, if_pos c2, ob_s, if_neg (by decide), show (4 : Int32) = nI 4 from rfl, F1, ob_s, bad 4 _ (by omega) (by omega)]
        · rw [if_neg c1, if_neg (by omega), show (4 : Int32) = nI 4 from rfl, F2, ob_s]; rfl
      · left
        obtain ⟨s', f1, f2, f3, f4⟩ := p_next h (by omega)
        refine ⟨v, s', by omega, by omega, ?_, ?_, f3, f4⟩
        · rw [if_neg c1, if_neg c2, ob_s, if_pos rfl]
          unfold X12_count_j50
          rw [h12, if_pos (show nI 0 ≤ (0 : Int32) by decide), v2, thn_eq, f1, ob_s]
        · rw [if_neg c1, if_pos (by omega), f2, ob_s]
  · right
    obtain ⟨w1, w2⟩ := p_wrong h h12
    rw [if_neg (show ¬ s.1 14 = (2 : Int32) from fun x => c (tk.mp x)), if_neg c, w1, ob_s, w2, ob_s]
    by_cases c32 : kJ tb b e j = 32
    · rw [if_pos c32]; exact ⟨1, by omega, by omega, badj 1 _ (by omega) (by omega), rfl⟩
    · rw [if_neg c32]; exact ⟨2, by omega, by omega, badj 2 _ (by omega) (by omega), rfl⟩
end V
