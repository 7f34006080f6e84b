/-! TEXTS: the class's tokens -/
/-- the class's text: e bytes -/
def txX (b : Nat → Nat) (e : Nat) (q : RS) : Prop := q.1 5 = nI e ∧ e ≤ 900 ∧ ∀ i, i < e → b i < 256 ∧ q.2.2.1 0 i = sB (b i)
/-- the kind and the value of a token that begins at st, in the class -/
def kdC (tb : Nat → Int64) (b : Nat → Nat) (e st : Nat) : Nat := if isLt (b st) then (if tkW b e st - st ≤ 8 then fsN (fun i => decide (tb i = lN (w27 b st (tkW b e st - st)))) 28 else 29) else if isDg (b st) then (if tkD b e st - st ≤ 4 then 30 else 32) else if b st = 59 then 31 else 32
def a27 (b : Nat → Nat) (p k : Nat) : Nat := w27 b p (if k ≤ 8 then k else 8)
section V
variable {q : RS} {b : Nat → Nat} {e : Nat} {tb : Nat → Int64}
theorem x_wordL (ht : txX b e q) (st : Nat) : ∀ (m k N : Nat), st + k + m = e → m < N → a_loop (fun (y : Int32 × Int64) => X8_addWord_b4 (nI st) y.1 y.2 q) N (nI (st + k), lN (a27 b st k)) = some (nI (scn (fun i => isLt (b i)) m (st + k)), lN (a27 b st (scn (fun i => isLt (b i)) m (st + k) - st)))
  | m, k, 0, _, h => absurd h (Nat.not_lt_zero _)
  | 0, k, N + 1, hk, _ => by
    have he := ht.2.1
    rw [show scn (fun i => isLt (b i)) 0 (st + k) = st + k from rfl, show st + k - st = k by omega]
    refine lp_e ?_
    dsimp only [X8_addWord_b4]
    rw [ht.1, if_pos (nI_le (by omega) (by omega))]
  | m + 1, k, N + 1, hk, hN => by
    have he := ht.2.1
    have hb := (ht.2.2 (st + k) (by omega)).1
    have h0 : (fun (y : Int32 × Int64) => X8_addWord_b4 (nI st) y.1 y.2 q) (nI (st + k), lN (a27 b st k)) = if isLt (b (st + k)) = true then some (.inl (nI (st + k + 1), lN (a27 b st (k + 1)))) else some (.inr (nI (st + k), lN (a27 b st k))) := by
      dsimp only [X8_addWord_b4, X8_addWord_j43, pX8_withLetter]
      rw [ht.1, if_neg (nI_ge (by omega) (by omega)), g_inT (by omega) (by omega), g_inT (by omega) (by omega), nI_clamp (by omega), (ht.2.2 (st + k) (by omega)).2, x_isLt hb, ob_s, ob_s, sbI (by omega), show st + k - st = k by omega, show (8 : Int32) = nI 8 from rfl, ifLe (by omega) (by omega), thn_eq, thn_eq, nI_1]
      cases c : isLt (b (st + k)) with
      | false => rfl
      | true =>
        have cl : 97 ≤ b (st + k) ∧ b (st + k) ≤ 122 := of_decide_eq_true c
        rw [if_pos rfl, if_pos rfl]
        by_cases c8 : 8 ≤ k
        · have ea : a27 b st (k + 1) = a27 b st k := by
            unfold a27
            rw [if_neg (by omega)]
            by_cases ck : k ≤ 8
            · rw [if_pos ck, show k = 8 by omega]
            · rw [if_neg ck]
          rw [if_pos c8, ea]
        · have es : sB (b (st + k)) = nI (b (st + k)) := if_pos (by omega)
          have ea : lN (a27 b st (k + 1)) = lN (a27 b st k) * (27 : Int64) + (sB (b (st + k)) - (97 : Int32) + (1 : Int32)).toInt64 := by
            rw [es, show (97 : Int32) = nI 97 from rfl, sbI (by omega), nI_1, nI_l (by omega), show (27 : Int64) = lN 27 from rfl, lN_mul, lN_add]
            unfold a27
            rw [if_pos (by omega), if_pos (by omega), show b (st + k) - 97 + 1 = b (st + k) - 96 by omega]; rfl
          rw [if_neg c8, ea]
    show _ = some (nI (if isLt (b (st + k)) = true then scn (fun i => isLt (b i)) m (st + k + 1) else st + k), lN (a27 b st ((if isLt (b (st + k)) = true then scn (fun i => isLt (b i)) m (st + k + 1) else st + k) - st)))
    cases c : isLt (b (st + k)) with
    | true =>
      rw [c, if_pos rfl] at h0
      rw [lp_s h0, if_pos rfl]
      exact x_wordL ht st m (k + 1) N (by omega) (by omega)
    | false =>
      rw [c, if_neg (by decide)] at h0
      rw [lp_e h0, if_neg (by decide), show st + k - st = k by omega]
theorem x_digsL (ht : txX b e q) (st : Nat) : ∀ (m k N : Nat), st + k + m = e → m < N → a_loop (fun (y : Int32 × Int64) => X8_addNumber_b4 (nI st) y.1 y.2 q) N (nI (st + k), lN (acD b st k)) = some (nI (scn (fun i => isDg (b i)) m (st + k)), lN (acD b st (scn (fun i => isDg (b i)) m (st + k) - st)))
  | m, k, 0, _, h => absurd h (Nat.not_lt_zero _)
  | 0, k, N + 1, hk, _ => by
    have he := ht.2.1
    rw [show scn (fun i => isDg (b i)) 0 (st + k) = st + k from rfl, show st + k - st = k by omega]
    refine lp_e ?_
    dsimp only [X8_addNumber_b4]
    rw [ht.1, if_pos (nI_le (by omega) (by omega))]
  | m + 1, k, N + 1, hk, hN => by
    have he := ht.2.1
    have hb := (ht.2.2 (st + k) (by omega)).1
    have h0 : (fun (y : Int32 × Int64) => X8_addNumber_b4 (nI st) y.1 y.2 q) (nI (st + k), lN (acD b st k)) = if isDg (b (st + k)) = true then some (.inl (nI (st + k + 1), lN (acD b st (k + 1)))) else some (.inr (nI (st + k), lN (acD b st k))) := by
      dsimp only [X8_addNumber_b4, X8_addNumber_j48]
      rw [ht.1, if_neg (nI_ge (by omega) (by omega)), g_inT (by omega) (by omega), g_inT (by omega) (by omega), nI_clamp (by omega), (ht.2.2 (st + k) (by omega)).2, x_isDg hb, ob_s, sbI (by omega), show st + k - st = k by omega, show (4 : Int32) = nI 4 from rfl, ifLe (by omega) (by omega), thn_eq, thn_eq, thn_eq, nI_1]
      cases c : isDg (b (st + k)) with
      | false => rfl
      | true =>
        have cl : 48 ≤ b (st + k) ∧ b (st + k) ≤ 57 := of_decide_eq_true c
        rw [if_pos rfl, if_pos rfl]
        by_cases c4 : 4 ≤ k
        · have ea : acD b st (k + 1) = acD b st k := by
            unfold acD
            rw [if_neg (by omega)]
            by_cases ck : k ≤ 4
            · rw [if_pos ck, show k = 4 by omega]
            · rw [if_neg ck]
          rw [if_pos c4, ea]
        · have es : sB (b (st + k)) = nI (b (st + k)) := if_pos (by omega)
          have ea : lN (acD b st (k + 1)) = lN (acD b st k) * (10 : Int64) + (sB (b (st + k)) - (48 : Int32)).toInt64 := by
            rw [es, show (48 : Int32) = nI 48 from rfl, sbI (by omega), nI_l (by omega), show (10 : Int64) = lN 10 from rfl, lN_mul, lN_add]
            unfold acD
            rw [if_pos (by omega), if_pos (by omega)]; rfl
          rw [if_neg c4, ea]
    show _ = some (nI (if isDg (b (st + k)) = true then scn (fun i => isDg (b i)) m (st + k + 1) else st + k), lN (acD b st ((if isDg (b (st + k)) = true then scn (fun i => isDg (b i)) m (st + k + 1) else st + k) - st)))
    cases c : isDg (b (st + k)) with
    | true =>
      rw [c, if_pos rfl] at h0
      rw [lp_s h0, if_pos rfl]
      exact x_digsL ht st m (k + 1) N (by omega) (by omega)
    | false =>
      rw [c, if_neg (by decide)] at h0
      rw [lp_e h0, if_neg (by decide), show st + k - st = k by omega]
theorem x_kindOf (x : Int64) : pX8_kindOfWord q x = some (nI (fsN (fun i => decide (q.2.2.2 1 i = x)) 28)) := by
  unfold pX8_kindOfWord
  refine bd (lp_fnd (fun i => decide (q.2.2.2 1 i = x)) 28 (by decide) (fun k hk => ?_) ?_) ?_
  · dsimp only [X8_kindOfWord_b2]
    rw [show (28 : Int32) = nI 28 from rfl, if_neg (nI_ge hk (by omega)), g_inT hk (by omega), nI_clamp (by omega), thn_eq, nI_1]
    by_cases c : q.2.2.2 1 k = x
    · rw [if_pos c, decide_eq_true c, if_pos rfl]
    · rw [if_neg c, decide_eq_false c, if_neg (by decide)]
  · dsimp only [X8_kindOfWord_b2]
    rw [if_pos (by decide)]
  · by_cases c : fsN (fun i => decide (q.2.2.2 1 i = x)) 28 < 28
    · first
        | rw [if_pos c]; rfl
        | rfl
    · have : fsN (fun i => decide (q.2.2.2 1 i = x)) 28 = 28 := by
        have := fsN_le (fun i => decide (q.2.2.2 1 i = x)) 28
        omega
      first
        | rw [if_neg c, this]; rfl
        | rfl
end V
