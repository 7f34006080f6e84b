/-! TEXTS: a text is opened, both ways -/
theorem i8_n (y : Int8) : ∃ n, n < 256 ∧ Int8.ofNat n = y := by
  refine ⟨y.toBitVec.toNat, y.toBitVec.isLt, ?_⟩
  apply Int8.toBitVec_inj.mp
  show BitVec.ofNat 8 y.toBitVec.toNat = y.toBitVec
  simp
theorem sB_7 : chB 8 (fun n => (Int8.ofNat n).toInt32 == sB n) 0 = true := by decide +kernel
theorem by_sB {x : Int32} (h : isBy x) : ∃ n, n < 256 ∧ x = sB n := by
  obtain ⟨y, rfl⟩ := h
  obtain ⟨n, h1, rfl⟩ := i8_n y
  exact ⟨n, h1, beq_iff_eq.mp (chB_ok _ 8 0 sB_7 n (Nat.zero_le _) (by omega))⟩
def byN (x : Int32) : Nat := (x &&& (255 : Int32)).toInt.toNat
theorem byN_ok {x : Int32} (h : isBy x) : byN x < 256 ∧ x = sB (byN x) := by
  obtain ⟨n, h1, rfl⟩ := by_sB h
  have e : byN (sB n) = n := by
    unfold byN
    rw [sB_an h1, nI_toInt (by omega)]; rfl
  rw [e]; exact ⟨h1, rfl⟩
/-- what the opening of a text leaves -/
def opS (s s' : RS) : Prop := (∀ j, j ≠ 8 → j ≠ 9 → j ≠ 12 → (j < 14 ∨ 18 < j) → s'.1 j = s.1 j) ∧ (∀ j, j ≠ 19 → s'.2.1 j = s.2.1 j) ∧ s'.2.2 = s.2.2
section V
variable {s s1 : RS} {n e lim : Nat} {tb : Nat → Int64}
theorem p_open (h : tpR n s s1) (htb : s1.2.2.2 1 = tb) (hT : tbK tb) (he : e ≤ n) (hl : e ≤ lim) (hl9 : lim ≤ 900) : ∃ b s' q' T, pX12_opens s (nI e) (nI lim) = some (true, s') ∧ pX8_begin s1 (nI e) = some q' ∧ prR tb b e T 0 s' q' ∧ s'.1 12 = nI 0 ∧ s'.1 8 = nI 0 ∧ s'.1 9 = nI e ∧ q'.1 2 = nI 0 ∧ q'.1 3 = nI 0 ∧ q'.1 4 = m1I ∧ opS s s' := by
  obtain ⟨h1, h2, h3, h4, h5⟩ := h
  have hb : ∀ i, i < e → byN (s.2.2.1 3 i) < 256 ∧ s.2.2.1 3 i = sB (byN (s.2.2.1 3 i)) := fun i hi => byN_ok (h5 i (by omega))
  obtain ⟨q', T, f1, f2, f3, f4, f5, f6, f7⟩ := x_begin (q := s1) (b := fun i => byN (s.2.2.1 3 i)) h2 h3 he (fun i hi => ⟨(hb i hi).1, by rw [← h4 i (by omega)]; exact (hb i hi).2⟩)
  rw [htb] at f2
  have t5 : txR (fun i => byN (s.2.2.1 3 i)) e (uI (uI (uI (uI s 9 (nI e)) 8 (0 : Int32)) 16 (0 : Int32)) 12 (0 : Int32)) := ⟨rfl, by omega, hb⟩
  obtain ⟨s', g1, g2, g3⟩ := r_next t5 (p := 0) (by omega) rfl
  refine ⟨fun i => byN (s.2.2.1 3 i), s', q', T, ?_, f1, ⟨hT, nxS_tx g3 t5, g2, f2, f3, Nat.zero_le _⟩, (g3.1 12 (by omega)).trans rfl, (g3.1 8 (by omega)).trans rfl, (g3.1 9 (by omega)).trans rfl, f4, f5, f6, ⟨fun j j8 j9 j12 j14 => ?_, fun j hj => g3.2.1 j hj, g3.2.2⟩⟩
  · unfold pX12_opens
    rw [if_neg (nI_pos (by omega)), h1, if_neg (nI_nlt he (by omega)), if_pos (nI_le hl (by omega))]
    simp only [thn_eq]
    rw [g1, ob_s]
  · rw [g3.1 j j14]
    have a1 : ∀ (u : RS) (k : Nat) (v : Int32), j ≠ k → (uI u k v).1 j = u.1 j := fun u k v hk => if_neg hk
    rw [a1 _ _ _ j12, a1 _ _ _ (by omega), a1 _ _ _ j8, a1 _ _ _ j9]
/-- a text that isn't there, or is too long -/
theorem r_notOpen (h : tpR n s s1) (hl9 : lim ≤ 900) (a0 : Int32) : (∃ e, a0 = nI e ∧ e ≤ n ∧ e ≤ lim) ∨ (pX12_opens s a0 (nI lim) = some (false, uI s 0 (5 : Int32)) ∧ (a0 < 0 ∨ ¬ a0 ≤ s1.1 2 ∨ ¬ a0 ≤ nI lim)) := by
  obtain ⟨h1, h2, h3, _, _⟩ := h
  unfold pX12_opens X12_opens_j17 pX12_no
  rw [thn_eq, ob_s, h1, h2]
  by_cases c1 : a0 < 0
  · right; rw [if_pos c1]; exact ⟨rfl, Or.inl c1⟩
  · rw [if_neg c1]
    by_cases c2 : nI n < a0
    · right; rw [if_pos c2]; exact ⟨rfl, Or.inr (Or.inl (fun x => (le_nlt _ _).mp x c2))⟩
    · rw [if_neg c2]
      by_cases c3 : a0 ≤ nI lim
      · left
        rcases pk_ix a0 (n := 901) (by omega) with g | g | ⟨e, _, rfl⟩
        · exact absurd g c1
        · exfalso
          rw [Int32.le_iff_toInt_le, nI_toInt (by omega)] at g c3
          omega
        · refine ⟨e, rfl, ?_, ?_⟩
          · rw [Int32.lt_iff_toInt_lt, nI_toInt (by omega), nI_toInt (by omega)] at c2; omega
          · rw [Int32.le_iff_toInt_le, nI_toInt (by omega), nI_toInt (by omega)] at c3; omega
      · right; rw [if_neg c3]; exact ⟨rfl, Or.inr (Or.inr c3)⟩
end V
