/-! TEXTS: a step from token to token, both ways -/
/-- the class's token j is what the reference looks at -/
def prR (tb : Nat → Int64) (b : Nat → Nat) (e T j : Nat) (s q : RS) : Prop := tbK tb ∧ txR b e s ∧ tokR b e (tsq b e j) s ∧ lxC tb b e T q ∧ q.1 10 = nI j ∧ j ≤ T
/-- the kind of token j -/
def kJ (tb : Nat → Int64) (b : Nat → Nat) (e j : Nat) : Nat := kR tb b e (tsq b e j)
theorem tsq_le (b : Nat → Nat) (e : Nat) : ∀ j, tsq b e j ≤ e
  | 0 => (tkS_le (b := b) (Nat.zero_le e)).2
  | j + 1 => (tkS_le (b := b) (tkB_le (b := b) (tsq_le b e j)).2).2
section V
variable {s q : RS} {b : Nat → Nat} {e T j : Nat} {tb : Nat → Int64}
theorem x_kindHere (h : prR tb b e T j s q) : pX8_kindHere q = some (nI (kJ tb b e j)) := by
  obtain ⟨_, _, _, ⟨l1, l2, l3, l4, l5, l6, l7, l8⟩, h10, hj⟩ := h
  unfold pX8_kindHere kJ
  rw [h10, g_inT (by omega) (by omega), nI_clamp (by omega)]
  by_cases c : j = T
  · rw [c, l7, l5, show kR tb b e e = 33 from if_pos (Nat.le_refl _)]
  · have t := l6 j (by omega)
    rw [t.2.1]
    unfold kR
    rw [if_neg (by have := t.1; omega)]
theorem x_startHere (h : prR tb b e T j s q) : q.2.2.1 7 j = nI (tsq b e j) := by
  obtain ⟨_, _, _, ⟨l1, l2, l3, l4, l5, l6, l7, l8⟩, h10, hj⟩ := h
  by_cases c : j = T
  · rw [c, l8, l5]
  · exact (l6 j (by omega)).2.2.1
theorem kJ_lt (h : prR tb b e T j s q) (hk : kJ tb b e j ≠ 33) : j < T := by
  obtain ⟨_, _, _, ⟨l1, l2, l3, l4, l5, l6, l7, l8⟩, h10, hj⟩ := h
  rcases Nat.lt_or_ge j T with c | c
  · exact c
  · exfalso
    apply hk
    have : j = T := by omega
    unfold kJ
    rw [this, l5]
    exact if_pos (Nat.le_refl _)
theorem p_next (h : prR tb b e T j s q) (hk : kJ tb b e j ≠ 33) : ∃ s', pX12_next s = some s' ∧ pX8_advance q = some (uI q 10 (nI (j + 1))) ∧ prR tb b e T (j + 1) s' (uI q 10 (nI (j + 1))) ∧ nxS s s' := by
  have hj := kJ_lt h hk
  obtain ⟨h0, h1, h2, h3, h10, _⟩ := h
  obtain ⟨l1, l2, l3, l4, l5, l6, l7, l8⟩ := h3
  have hB := tkB_le (b := b) (tsq_le b e j)
  obtain ⟨s', f1, f2, f3⟩ := r_next h1 hB.2 h2.2.2.1
  refine ⟨s', f1, ?_, ⟨h0, nxS_tx f3 h1, f2, ⟨l1, l2, l3, l4, l5, l6, l7, l8⟩, rfl, hj⟩, f3⟩
  unfold pX8_advance
  rw [l2, h10, if_neg (nI_ge hj (by omega)), thn_eq, nI_1]
/-- the reference's token in words of the class's kinds -/
theorem r_tok (h : prR tb b e T j s q) : (s.1 14 = nI 4 ↔ kJ tb b e j = 32) ∧ (s.1 14 = nI 3 ↔ kJ tb b e j = 31) ∧ (s.1 14 = nI 2 ↔ kJ tb b e j = 30) ∧ (s.1 14 = nI 0 ↔ kJ tb b e j = 33) := by
  obtain ⟨_, _, h2, _, _, _⟩ := h
  rw [h2.2.1]
  unfold kJ
  have sm : ∀ x y : Nat, x ≤ 4 → y ≤ 4 → (nI x = nI y ↔ x = y) := fun x y hx hy => nI_eq (by omega) (by omega)
  rcases kR_c tb b e (tsq b e j) with ⟨_, h1, h2⟩ | ⟨hs, cl, h1, hB, h2⟩ | ⟨_, _, _, _, ⟨_, h1, h2⟩ | ⟨_, h1, h2⟩⟩ | ⟨_, _, _, ⟨h1, h2⟩ | ⟨h1, h2⟩⟩
  · rw [h1, h2, sm _ _ (by omega) (by omega), sm _ _ (by omega) (by omega), sm _ _ (by omega) (by omega), sm _ _ (by omega) (by omega)]; omega
  · rw [h1, sm _ _ (by omega) (by omega), sm _ _ (by omega) (by omega), sm _ _ (by omega) (by omega), sm _ _ (by omega) (by omega), h2]
    have l := fsN_le (fun i => decide (tb i = lN (w27 b (tsq b e j) (tkW b e (tsq b e j) - tsq b e j)))) 28
    by_cases c : tkW b e (tsq b e j) - tsq b e j ≤ 8
    · rw [if_pos c]; omega
    · rw [if_neg c]; omega
  · rw [h1, h2, sm _ _ (by omega) (by omega), sm _ _ (by omega) (by omega), sm _ _ (by omega) (by omega), sm _ _ (by omega) (by omega)]; omega
  · rw [h1, h2, sm _ _ (by omega) (by omega), sm _ _ (by omega) (by omega), sm _ _ (by omega) (by omega), sm _ _ (by omega) (by omega)]; omega
  · rw [h1, h2, sm _ _ (by omega) (by omega), sm _ _ (by omega) (by omega), sm _ _ (by omega) (by omega), sm _ _ (by omega) (by omega)]; omega
  · rw [h1, h2, sm _ _ (by omega) (by omega), sm _ _ (by omega) (by omega), sm _ _ (by omega) (by omega), sm _ _ (by omega) (by omega)]; omega
/-- a fault: of kind f, at the token -/
def fltR (f st : Nat) (s : RS) : RS := uI (uI s 12 (nI f)) 13 (nI st)
def fltX (f st : Nat) (q : RS) : RS := uI (uI q 3 (nI f)) 4 (nI st)
theorem p_fail (h : prR tb b e T j s q) (h12 : s.1 12 = nI 0) (f : Nat) : pX12_fail s (nI f) (s.1 15) = some (fltR f (tsq b e j) s) ∧ pX8_blame q (nI f) = some (false, fltX f (tsq b e j) q) := by
  have st := x_startHere h
  obtain ⟨_, _, h2, ⟨l1, l2, l3, l4, l5, l6, l7, l8⟩, h10, hj⟩ := h
  constructor
  · unfold pX12_fail
    rw [h12, if_pos (show nI 0 ≤ (0 : Int32) by decide), thn_eq, thn_eq, h2.1]; rfl
  · unfold pX8_blame
    rw [thn_eq, show (uI q 3 (nI f)).1 10 = nI j from h10, g_inT (by omega) (by omega), nI_clamp (by omega), show (uI q 3 (nI f)).2.2.1 7 j = nI (tsq b e j) from st, thn_eq]; rfl
theorem p_wrong (h : prR tb b e T j s q) (h12 : s.1 12 = nI 0) : pX12_wrong s = some (fltR (if kJ tb b e j = 32 then 1 else 2) (tsq b e j) s) ∧ pX8_blameToken q = some (false, fltX (if kJ tb b e j = 32 then 1 else 2) (tsq b e j) q) := by
  have kh := x_kindHere h
  have tk := (r_tok h).1
  have hle := kR_le tb b e (tsq b e j)
  have hle' : kJ tb b e j ≤ 33 := hle
  have st := x_startHere h
  have F := fun f => (p_fail h h12 f).1
  have h10 := h.2.2.2.2.1
  have hj := h.2.2.2.2.2
  have l3 := h.2.2.2.1.2.2.1
  constructor
  · unfold pX12_wrong X12_wrong_j14
    by_cases c : kJ tb b e j = 32
    · rw [if_pos (show s.1 14 = (4 : Int32) from tk.mpr c), if_pos c, show (1 : Int32) = nI 1 from rfl, F 1, ob_s]
    · rw [if_neg (show ¬ s.1 14 = (4 : Int32) from fun x => c (tk.mp x)), if_neg c, show (2 : Int32) = nI 2 from rfl, F 2, ob_s]
  · unfold pX8_kindHere at kh
    rw [h10, g_inT (by omega) (by omega), nI_clamp (by omega)] at kh
    have kh' : q.2.2.1 6 j = nI (kJ tb b e j) := Option.some.inj kh
    unfold pX8_blameToken X8_blameToken_j20
    rw [h10, g_inT (by omega) (by omega), nI_clamp (by omega), kh', show (32 : Int32) = nI 32 from rfl, ifE (by omega) (by omega)]
    have g1 : ∀ v : Int32, (uI q 3 v).1 10 = nI j := fun v => h10
    have g2 : ∀ v : Int32, (uI q 3 v).2.2.1 7 j = nI (tsq b e j) := fun v => st
    simp only [thn_eq, g1]
    rw [g_inT (by omega) (by omega), g_inT (by omega) (by omega), nI_clamp (by omega), g2, g2]
    by_cases c : kJ tb b e j = 32
    · rw [if_pos c, if_pos c]; rfl
    · rw [if_neg c, if_neg c]; rfl
/-- a wanted token: both go on, or both have the same fault -/
theorem p_must (h : prR tb b e T j s q) (h12 : s.1 12 = nI 0) {k : Nat} (hk : k ≤ 32) : (kJ tb b e j = k ∧ (∃ s', pX12_must s true = some s' ∧ pX8_pass q (nI k) = some (true, uI q 10 (nI (j + 1))) ∧ prR tb b e T (j + 1) s' (uI q 10 (nI (j + 1))) ∧ nxS s s')) ∨ (kJ tb b e j ≠ k ∧ pX12_must s false = some (fltR (if kJ tb b e j = 32 then 1 else 2) (tsq b e j) s) ∧ pX8_pass q (nI k) = some (false, fltX (if kJ tb b e j = 32 then 1 else 2) (tsq b e j) q)) := by
  have kh := x_kindHere h
  have hle' : kJ tb b e j ≤ 33 := kR_le tb b e (tsq b e j)
  have h10 := h.2.2.2.2.1
  have hj := h.2.2.2.2.2
  have l3 := h.2.2.2.1.2.2.1
  unfold pX8_kindHere at kh
  rw [h10, g_inT (by omega) (by omega), nI_clamp (by omega)] at kh
  have kh' : q.2.2.1 6 j = nI (kJ tb b e j) := Option.some.inj kh
  unfold pX12_must pX8_pass
  rw [h12, if_pos (show nI 0 ≤ (0 : Int32) by decide), if_pos (show nI 0 ≤ (0 : Int32) by decide), h10, g_inT (by omega) (by omega), nI_clamp (by omega), kh', ifE (by omega) (by omega)]
  by_cases c : kJ tb b e j = k
  · left
    obtain ⟨s', f1, f2, f3, f4⟩ := p_next h (by omega)
    refine ⟨c, s', ?_, ?_, f3, f4⟩
    · rw [if_pos rfl, f1, ob_s]
    · rw [if_pos c, f2, ob_s]
  · right
    obtain ⟨w1, w2⟩ := p_wrong h h12
    refine ⟨c, ?_, ?_⟩
    · rw [if_neg (by decide), w1, ob_s]
    · rw [if_neg c, w2, ob_s]
end V
