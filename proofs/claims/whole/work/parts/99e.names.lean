/-! TEXTS: names found, both ways -/
def fdN (nm : Nat → Nat) (x n : Nat) : Int32 := if fsN (fun k => decide (nm k = x)) n < n then nI (fsN (fun k => decide (nm k = x)) n) else m1I
section V
variable {s q r : RS} {nm : Nat → Nat} {x n : Nat}
theorem nok_eq {x y : Nat} (hx : nok x) (hy : nok y) : (lN (cv 8 x) = lN (cv 8 y) ↔ x = y) ∧ (lN x = lN y ↔ x = y) := by
  constructor
  · rw [pk_lEQ (by have := hx.2.2; omega) (by have := hy.2.2; omega)]
    exact ⟨fun h => by rw [← hx.1, h, hy.1], fun h => by rw [h]⟩
  · exact pk_lEQ (by have := hx.2.1; omega) (by have := hy.2.1; omega)
theorem r_named {i t : Nat} (hb : 20 * i + t + n ≤ 100) (hn : ∀ k, k < n → s.2.2.2 5 (20 * i + t + k) = lN (cv 8 (nm k)) ∧ nok (nm k)) (hx : nok x) (h19 : s.2.1 19 = lN (cv 8 x)) : pX12_named s (nI i) (nI t) (nI n) = some (fdN nm x n) := by
  unfold pX12_named
  refine bd (lp_fnd (fun k => decide (nm k = x)) n (by omega) (fun k hk => ?_) ?_) ?_
  · dsimp only [X12_named_b3]
    rw [if_neg (nI_ge hk (by omega)), show (20 : Int32) = nI 20 from rfl, pk_mul, nI_add, nI_add, g_inT (by omega) (by omega), nI_clamp (by omega), (hn k hk).1, h19, thn_eq, nI_1]
    by_cases c : nm k = x
    · rw [if_pos ((nok_eq (hn k hk).2 hx).1.mpr c), decide_eq_true c, if_pos rfl]
    · rw [if_neg (fun h => c ((nok_eq (hn k hk).2 hx).1.mp h)), decide_eq_false c, if_neg (by decide)]
  · dsimp only [X12_named_b3]
    rw [if_pos (nI_le (Nat.le_refl _) (by omega))]
  · unfold fdN
    by_cases c : fsN (fun k => decide (nm k = x)) n < n
    · rw [if_pos c, if_pos c]; rfl
    · rw [if_neg c, if_neg c]; rfl
theorem x_findChange (h1 : r.1 1 = nI n) (h16 : n ≤ 16) (hn : ∀ k, k < n → r.2.2.2 3 k = lN (nm k) ∧ nok (nm k)) (hx : nok x) : pX0_findChange r (lN x) = some (fdN nm x n) := by
  unfold pX0_findChange
  refine bd (lp_fnd (fun k => decide (nm k = x)) n (by omega) (fun k hk => ?_) ?_) ?_
  · dsimp only [X0_findChange_b2]
    rw [h1, if_neg (nI_ge hk (by omega)), g_inT (by omega) (by omega), nI_clamp (by omega), (hn k hk).1, thn_eq, nI_1]
    by_cases c : nm k = x
    · rw [if_pos ((nok_eq (hn k hk).2 hx).2.mpr c), decide_eq_true c, if_pos rfl]
    · rw [if_neg (fun h => c ((nok_eq (hn k hk).2 hx).2.mp h)), decide_eq_false c, if_neg (by decide)]
  · dsimp only [X0_findChange_b2]
    rw [h1, if_pos (nI_le (Nat.le_refl _) (by omega))]
  · unfold fdN
    by_cases c : fsN (fun k => decide (nm k = x)) n < n
    · rw [if_pos c, if_pos c]; rfl
    · rw [if_neg c, if_neg c]; rfl
theorem x_findIsland (h1 : r.1 0 = nI n) (h16 : n ≤ 4) (hn : ∀ k, k < n → r.2.2.2 2 k = lN (nm k) ∧ nok (nm k)) (hx : nok x) : pX0_findIsland r (lN x) = some (fdN nm x n) := by
  unfold pX0_findIsland
  refine bd (lp_fnd (fun k => decide (nm k = x)) n (by omega) (fun k hk => ?_) ?_) ?_
  · dsimp only [X0_findIsland_b2]
    rw [h1, if_neg (nI_ge hk (by omega)), g_inT (by omega) (by omega), nI_clamp (by omega), (hn k hk).1, thn_eq, nI_1]
    by_cases c : nm k = x
    · rw [if_pos ((nok_eq (hn k hk).2 hx).2.mpr c), decide_eq_true c, if_pos rfl]
    · rw [if_neg (fun h => c ((nok_eq (hn k hk).2 hx).2.mp h)), decide_eq_false c, if_neg (by decide)]
  · dsimp only [X0_findIsland_b2]
    rw [h1, if_pos (nI_le (Nat.le_refl _) (by omega))]
  · unfold fdN
    by_cases c : fsN (fun k => decide (nm k = x)) n < n
    · rw [if_pos c, if_pos c]; rfl
    · rw [if_neg c, if_neg c]; rfl
theorem fdN_c (nm : Nat → Nat) (x n : Nat) : (fdN nm x n = m1I ∧ ∀ k, k < n → nm k ≠ x) ∨ ∃ k, k < n ∧ nm k = x ∧ fdN nm x n = nI k := by
  unfold fdN
  by_cases c : fsN (fun k => decide (nm k = x)) n < n
  · rw [if_pos c]
    exact Or.inr ⟨_, c, of_decide_eq_true (fsN_yes (fun k => decide (nm k = x)) n c), rfl⟩
  · rw [if_neg c]
    exact Or.inl ⟨rfl, fun k hk => of_decide_eq_false (fsN_no (fun k => decide (nm k = x)) n k (by omega))⟩
end V
