/-! TEXTS: what stands at a token, both ways -/
def kwK (k : Nat) : Int32 := if k = 1 then nI 0 else if k = 4 then nI 1 else if k = 6 then nI 2 else if k = 7 then nI 3 else if k = 8 then nI 4 else m1I
def stW (k : Nat) : Int32 := if k = 11 then nI 0 else if k = 13 then nI 1 else if k = 17 then nI 2 else if k = 18 then nI 3 else if k = 24 then nI 4 else if k = 23 then nI 5 else if k = 19 then nI 6 else if k = 25 then nI 7 else if k = 27 then nI 8 else m1I
theorem kR_le (tb : Nat → Int64) (b : Nat → Nat) (e st : Nat) : kR tb b e st ≤ 33 := by
  rcases kR_c tb b e st with ⟨_, h1, h2⟩ | ⟨hs, cl, h1, hB, h2⟩ | ⟨_, _, _, _, ⟨_, h1, h2⟩ | ⟨_, h1, h2⟩⟩ | ⟨_, _, _, ⟨h1, h2⟩ | ⟨h1, h2⟩⟩
  · omega
  · rw [h2]
    have := fsN_le (fun i => decide (tb i = lN (w27 b st (tkW b e st - st)))) 28
    by_cases c : tkW b e st - st ≤ 8
    · rw [if_pos c]; omega
    · rw [if_neg c]; omega
  · omega
  · omega
  · omega
  · omega
theorem k34 {P : Nat → Prop} (h : ∀ k, (k = 0 ∨ k = 1 ∨ k = 2 ∨ k = 3 ∨ k = 4 ∨ k = 5 ∨ k = 6 ∨ k = 7 ∨ k = 8 ∨ k = 9 ∨ k = 10 ∨ k = 11 ∨ k = 12 ∨ k = 13 ∨ k = 14 ∨ k = 15 ∨ k = 16 ∨ k = 17 ∨ k = 18 ∨ k = 19 ∨ k = 20 ∨ k = 21 ∨ k = 22 ∨ k = 23 ∨ k = 24 ∨ k = 25 ∨ k = 26 ∨ k = 27 ∨ k = 28 ∨ k = 29 ∨ k = 30 ∨ k = 31 ∨ k = 32 ∨ k = 33) → P k) (k : Nat) (hk : k ≤ 33) : P k := h k (by omega)
section V
variable {s q : RS} {b : Nat → Nat} {e st : Nat} {tb : Nat → Int64}
theorem r_kindWord (hT : tbK tb) (ht : tokR b e st s) : pX12_kindWord s = some (kwK (kR tb b e st)) := by
  unfold pX12_kindWord
  rw [sp_1, ob_s, r_isWord hT ht (by omega), ob_s, sp_4, ob_s, r_isWord hT ht (by omega), ob_s, sp_6, ob_s, r_isWord hT ht (by omega), ob_s, sp_7, ob_s, r_isWord hT ht (by omega), ob_s, sp_8, ob_s, r_isWord hT ht (by omega), ob_s]
  have hk := kR_le tb b e st
  generalize kR tb b e st = k at *
  refine k34 (P := fun k => (if decide (k = 1) = true then some (0 : Int32) else if decide (k = 4) = true then some (1 : Int32) else if decide (k = 6) = true then some (2 : Int32) else if decide (k = 7) = true then some (3 : Int32) else if decide (k = 8) = true then some (4 : Int32) else some (-1 : Int32)) = some (kwK k)) (fun k h => ?_) k hk
  rcases h with rfl | rfl | rfl | rfl | rfl | rfl | rfl | rfl | rfl | rfl | rfl | rfl | rfl | rfl | rfl | rfl | rfl | rfl | rfl | rfl | rfl | rfl | rfl | rfl | rfl | rfl | rfl | rfl | rfl | rfl | rfl | rfl | rfl | rfl <;> rfl
theorem r_stepWord (hT : tbK tb) (ht : tokR b e st s) : pX12_stepWord s = some (stW (kR tb b e st)) := by
  unfold pX12_stepWord
  rw [sp_11, ob_s, r_isWord hT ht (by omega), ob_s, sp_13, ob_s, r_isWord hT ht (by omega), ob_s, sp_17, ob_s, r_isWord hT ht (by omega), ob_s, sp_18, ob_s, r_isWord hT ht (by omega), ob_s, sp_24, ob_s, r_isWord hT ht (by omega), ob_s, sp_23, ob_s, r_isWord hT ht (by omega), ob_s, sp_19, ob_s, r_isWord hT ht (by omega), ob_s, sp_25, ob_s, r_isWord hT ht (by omega), ob_s, sp_27, ob_s, r_isWord hT ht (by omega), ob_s]
  have hk := kR_le tb b e st
  generalize kR tb b e st = k at *
  refine k34 (P := fun k => (if decide (k = 11) = true then some (0 : Int32) else if decide (k = 13) = true then some (1 : Int32) else if decide (k = 17) = true then some (2 : Int32) else if decide (k = 18) = true then some (3 : Int32) else if decide (k = 24) = true then some (4 : Int32) else if decide (k = 23) = true then some (5 : Int32) else if decide (k = 19) = true then some (6 : Int32) else if decide (k = 25) = true then some (7 : Int32) else if decide (k = 27) = true then some (8 : Int32) else some (-1 : Int32)) = some (stW k)) (fun k h => ?_) k hk
  rcases h with rfl | rfl | rfl | rfl | rfl | rfl | rfl | rfl | rfl | rfl | rfl | rfl | rfl | rfl | rfl | rfl | rfl | rfl | rfl | rfl | rfl | rfl | rfl | rfl | rfl | rfl | rfl | rfl | rfl | rfl | rfl | rfl | rfl | rfl <;> rfl
theorem r_isKept (hT : tbK tb) (ht : tokR b e st s) : pX12_isKept s = some (decide (kR tb b e st < 28)) := by
  unfold pX12_isKept
  rw [r_isIslandWord hT ht, ob_s, r_kindWord hT ht, ob_s, r_isKey hT ht, ob_s, r_isSays hT ht, ob_s, r_isOf hT ht, ob_s, r_isNot hT ht, ob_s, r_isAfter hT ht, ob_s, r_stepWord hT ht, ob_s, r_isAt hT ht, ob_s, r_isTo hT ht, ob_s, r_isLate hT ht, ob_s, r_isTwice hT ht, ob_s, r_isHas hT ht, ob_s, r_isQuietWord hT ht, ob_s, r_isDayWord hT ht, ob_s, r_isEnd hT ht, ob_s]
  have hk := kR_le tb b e st
  generalize kR tb b e st = k at *
  refine k34 (P := fun k => (if decide (k = 0) = true then some true else if 0 ≤ kwK k then some true else if decide (k = 2) = true then some true else if decide (k = 3) = true then some true else if decide (k = 5) = true then some true else if decide (k = 9) = true then some true else if decide (k = 10) = true then some true else if stW k < 0 then if decide (k = 12) = true then some true else if decide (k = 14) = true then some true else if decide (k = 15) = true then some true else if decide (k = 16) = true then some true else if decide (k = 20) = true then some true else if decide (k = 21) = true then some true else if decide (k = 22) = true then some true else if decide (k = 26) = true then some true else some false else some true) = some (decide (k < 28))) (fun k h => ?_) k hk
  rcases h with rfl | rfl | rfl | rfl | rfl | rfl | rfl | rfl | rfl | rfl | rfl | rfl | rfl | rfl | rfl | rfl | rfl | rfl | rfl | rfl | rfl | rfl | rfl | rfl | rfl | rfl | rfl | rfl | rfl | rfl | rfl | rfl | rfl | rfl <;> decide
theorem r_isName (hT : tbK tb) (he9 : e ≤ 900) (ht : tokR b e st s) : pX12_isName s = some (decide (kR tb b e st = 28)) := by
  unfold pX12_isName
  rw [ht.2.1, r_isKept hT ht, ob_s, show (1 : Int32) = nI 1 from rfl]
  rcases kR_c tb b e st with ⟨_, h1, h2⟩ | ⟨hs, cl, h1, hB, h2⟩ | ⟨_, _, _, _, ⟨_, h1, h2⟩ | ⟨_, h1, h2⟩⟩ | ⟨_, _, _, ⟨h1, h2⟩ | ⟨h1, h2⟩⟩
  · rw [h1, h2]; rfl
  · rw [h1, if_pos rfl, (ht.2.2.2.1 h1).1, hB, show (8 : Int32) = nI 8 from rfl]
    have he := tkW_le (b := b) (e := e) (p := st) (by omega)
    have l := fsN_le (fun i => decide (tb i = lN (w27 b st (tkW b e st - st)))) 28
    rw [ifLt (by omega) (by omega)]
    by_cases c : tkW b e st - st ≤ 8
    · rw [if_neg (by omega)]
      rw [if_pos c] at h2
      rw [h2]
      by_cases c2 : fsN (fun i => decide (tb i = lN (w27 b st (tkW b e st - st)))) 28 < 28
      · rw [decide_eq_true c2, if_pos rfl, decide_eq_false (by omega)]
      · rw [decide_eq_false c2, if_neg (by decide), decide_eq_true (by omega)]
    · rw [if_pos (by omega), h2, if_neg c]; rfl
  · rw [h1, h2]; rfl
  · rw [h1, h2]; rfl
  · rw [h1, h2]; rfl
  · rw [h1, h2]; rfl
end V
