/-! TEXTS: bytes, and the reference's next -/
/-- a byte as it lies on the tape -/
def sB (n : Nat) : Int32 := if n < 128 then nI n else nI n - nI 256
def isLt (n : Nat) : Bool := decide (97 ≤ n ∧ n ≤ 122)
def isDg (n : Nat) : Bool := decide (48 ≤ n ∧ n ≤ 57)
def isBl (n : Nat) : Bool := decide (n = 10 ∨ n = 32)
theorem sB_1 : chB 8 (fun n => (sB n &&& 255) == nI n) 0 = true := by decide +kernel
theorem sB_2 : chB 8 (fun n => pX8_isLetter (sB n) == some (isLt n)) 0 = true := by decide +kernel
theorem sB_3 : chB 8 (fun n => pX8_isDigit (sB n) == some (isDg n)) 0 = true := by decide +kernel
theorem sB_4 : chB 8 (fun n => pX12_isLetter (nI n) == some (isLt n)) 0 = true := by decide +kernel
theorem sB_5 : chB 8 (fun n => pX12_isDigit (nI n) == some (isDg n)) 0 = true := by decide +kernel
theorem sB_6 : chB 8 (fun n => (decide (sB n = (10 : Int32)) == decide (n = 10)) && (decide (sB n = (32 : Int32)) == decide (n = 32)) && (decide (sB n = (59 : Int32)) == decide (n = 59))) 0 = true := by decide +kernel
theorem sB_an {n : Nat} (h : n < 256) : sB n &&& (255 : Int32) = nI n := beq_iff_eq.mp (chB_ok _ 8 0 sB_1 n (Nat.zero_le _) (by omega))
theorem x_isLt {n : Nat} (h : n < 256) : pX8_isLetter (sB n) = some (isLt n) := beq_iff_eq.mp (chB_ok _ 8 0 sB_2 n (Nat.zero_le _) (by omega))
theorem x_isDg {n : Nat} (h : n < 256) : pX8_isDigit (sB n) = some (isDg n) := beq_iff_eq.mp (chB_ok _ 8 0 sB_3 n (Nat.zero_le _) (by omega))
theorem r_isLt {n : Nat} (h : n < 256) : pX12_isLetter (nI n) = some (isLt n) := beq_iff_eq.mp (chB_ok _ 8 0 sB_4 n (Nat.zero_le _) (by omega))
theorem r_isDg {n : Nat} (h : n < 256) : pX12_isDigit (nI n) = some (isDg n) := beq_iff_eq.mp (chB_ok _ 8 0 sB_5 n (Nat.zero_le _) (by omega))
theorem sB_is {n : Nat} (h : n < 256) : (sB n = (10 : Int32) ↔ n = 10) ∧ (sB n = (32 : Int32) ↔ n = 32) ∧ (sB n = (59 : Int32) ↔ n = 59) := by
  have k := chB_ok _ 8 0 sB_6 n (Nat.zero_le _) (by omega)
  have k1 := Bool.and_eq_true_iff.mp k
  have k2 := Bool.and_eq_true_iff.mp k1.1
  exact ⟨decide_eq_decide.mp (beq_iff_eq.mp k2.1), decide_eq_decide.mp (beq_iff_eq.mp k2.2), decide_eq_decide.mp (beq_iff_eq.mp k1.2)⟩
/-- from p on, m places: the first where f fails -/
def scn (f : Nat → Bool) : Nat → Nat → Nat
  | 0, p => p
  | m + 1, p => if f p then scn f m (p + 1) else p
theorem scn_le (f : Nat → Bool) : ∀ m p, p ≤ scn f m p ∧ scn f m p ≤ p + m
  | 0, p => ⟨Nat.le_refl _, Nat.le_refl _⟩
  | m + 1, p => by
    unfold scn
    cases f p with
    | true => rw [if_pos rfl]; have := scn_le f m (p + 1); omega
    | false => rw [if_neg (by decide)]; omega
def w32 (b : Nat → Nat) (p : Nat) : Nat → Nat
  | 0 => 0
  | k + 1 => w32 b p k * 32 + (b (p + k) - 96)
def w27 (b : Nat → Nat) (p : Nat) : Nat → Nat
  | 0 => 0
  | k + 1 => w27 b p k * 27 + (b (p + k) - 96)
def w10 (b : Nat → Nat) (p : Nat) : Nat → Nat
  | 0 => 0
  | k + 1 => w10 b p k * 10 + (b (p + k) - 48)
/-- the text: e bytes -/
def txR (b : Nat → Nat) (e : Nat) (s : RS) : Prop := s.1 9 = nI e ∧ e ≤ 900 ∧ ∀ i, i < e → b i < 256 ∧ s.2.2.1 3 i = sB (b i)
/-- where the token after p begins -/
def tkS (b : Nat → Nat) (e p : Nat) : Nat := scn (fun i => isBl (b i)) (e - p) p
/-- where a row of letters, of digits ends -/
def tkW (b : Nat → Nat) (e p : Nat) : Nat := scn (fun i => isLt (b i)) (e - p) p
def tkD (b : Nat → Nat) (e p : Nat) : Nat := scn (fun i => isDg (b i)) (e - p) p
/-- the token that begins at p: its kind, and where it ends -/
def tkK (b : Nat → Nat) (e p : Nat) : Nat := if e ≤ p then 0 else if isLt (b p) then 1 else if isDg (b p) then (if tkD b e p - p ≤ 4 then 2 else 4) else if b p = 59 then 3 else 4
def tkB (b : Nat → Nat) (e p : Nat) : Nat := if e ≤ p then p else if isLt (b p) then tkW b e p else if isDg (b p) then tkD b e p else p + 1
theorem uI_self (s : RS) (k : Nat) : uI s k (s.1 k) = s := by
  have : va_up s.1 k (s.1 k) = s.1 := by
    funext j
    unfold va_up
    by_cases c : j = k
    · rw [if_pos c, c]
    · rw [if_neg c]
  show (va_up s.1 k (s.1 k), s.2) = _
  rw [this]
theorem uL_at (s : RS) (k : Nat) (v : Int64) : (uL s k v).2.1 k = v := if_pos rfl
theorem uL_self (s : RS) (k : Nat) : uL s k (s.2.1 k) = s := by
  have : va_up s.2.1 k (s.2.1 k) = s.2.1 := by
    funext j
    unfold va_up
    by_cases c : j = k
    · rw [if_pos c, c]
    · rw [if_neg c]
  show (s.1, va_up s.2.1 k (s.2.1 k), s.2.2) = _
  rw [this]
theorem uL_uL (s : RS) (k : Nat) (v w : Int64) : uL (uL s k v) k w = uL s k w := by
  have : va_up (va_up s.2.1 k v) k w = va_up s.2.1 k w := by
    funext j
    unfold va_up
    by_cases c : j = k
    · rw [if_pos c, if_pos c]
    · rw [if_neg c, if_neg c, if_neg c]
  show (s.1, va_up (va_up s.2.1 k v) k w, s.2.2) = _
  rw [this]; rfl
section V
variable {s : RS} {b : Nat → Nat} {e : Nat}
theorem r_look (h : txR b e s) {p : Nat} (hp : p < e) : pX12_look2 s (nI p) = some (nI (b p)) := by
  have he := h.2.1
  unfold pX12_look2
  rw [h.1, if_neg (nI_ge hp (by omega)), g_inT (by omega) (by omega), nI_clamp (by omega), (h.2.2 p hp).2, sB_an (h.2.2 p hp).1]
theorem r_lookE (h : txR b e s) {p : Nat} (hp : p = e) : pX12_look2 s (nI p) = some (nI 0) := by
  have he := h.2.1
  unfold pX12_look2
  rw [h.1, if_pos (nI_le (by omega) (by omega))]; rfl
theorem r_skip : ∀ (m p : Nat) (s : RS) (N : Nat), txR b (p + m) s → s.1 15 = nI p → m < N → a_loop (fun (q : RS) => X12_next_b8 q) N s = some (uI s 15 (nI (scn (fun i => isBl (b i)) m p)))
  | m, p, s, 0, _, _, h => absurd h (Nat.not_lt_zero _)
  | 0, p, s, N + 1, ht, hp, _ => by
    have he := ht.2.1
    have e1 : uI s 15 (nI (scn (fun i => isBl (b i)) 0 p)) = s := by
      show uI s 15 (nI p) = s
      rw [← hp, uI_self]
    rw [e1]
    refine lp_e ?_
    dsimp only [X12_next_b8]
    rw [ht.1, hp, if_pos (nI_le (by omega) (by omega))]
  | m + 1, p, s, N + 1, ht, hp, hN => by
    have he := ht.2.1
    have hb := (ht.2.2 p (by omega)).1
    have h0 : (fun (q : RS) => X12_next_b8 q) s = if isBl (b p) = true then some (.inl (uI s 15 (nI (p + 1)))) else some (.inr s) := by
      dsimp only [X12_next_b8, X12_next_j45]
      rw [ht.1, hp, if_neg (nI_ge (by omega) (by omega)), r_look ht (by omega), ob_s, ob_s, show (10 : Int32) = nI 10 from rfl, show (32 : Int32) = nI 32 from rfl, ifE (by omega) (by omega), ifE (by omega) (by omega), thn_eq, nI_1]
      unfold isBl
      by_cases c1 : b p = 10
      · rw [if_pos c1, decide_eq_true (Or.inl c1), if_pos rfl]
      · rw [if_neg c1]
        by_cases c2 : b p = 32
        · rw [if_pos c2, decide_eq_true (Or.inr c2), if_pos rfl]
        · rw [if_neg c2, decide_eq_false (by omega), if_neg (by decide)]
    show _ = some (uI s 15 (nI (if isBl (b p) = true then scn (fun i => isBl (b i)) m (p + 1) else p)))
    cases c : isBl (b p) with
    | true =>
      rw [c, if_pos rfl] at h0
      have ih := r_skip m (p + 1) (uI s 15 (nI (p + 1))) N ⟨by rw [show p + 1 + m = p + (m + 1) by omega]; exact ht.1, by omega, fun i hi => ht.2.2 i (by omega)⟩ rfl (by omega)
      rw [lp_s h0, ih, uI_uI, if_pos rfl]
    | false =>
      rw [c, if_neg (by decide)] at h0
      rw [lp_e h0, if_neg (by decide), ← hp, uI_self]
/-- the code of k letters, as the reference has it -/
def acL (b : Nat → Nat) (p k : Nat) : Int64 := if k ≤ 8 then lN (w32 b p k) else -1
theorem r_word (st : Nat) : ∀ (m k : Nat) (s : RS) (N : Nat), txR b (st + k + m) s → s.1 15 = nI st → s.1 16 = nI (st + k) → s.2.1 19 = acL b st k → m < N → a_loop (fun (q : RS) => X12_next_b109 q) N s = some (uI (uL s 19 (acL b st (scn (fun i => isLt (b i)) m (st + k) - st))) 16 (nI (scn (fun i => isLt (b i)) m (st + k))))
  | m, k, s, 0, _, _, _, _, h => absurd h (Nat.not_lt_zero _)
  | 0, k, s, N + 1, ht, h15, h16, h19, _ => by
    have e1 : uI (uL s 19 (acL b st (scn (fun i => isLt (b i)) 0 (st + k) - st))) 16 (nI (scn (fun i => isLt (b i)) 0 (st + k))) = s := by
      show uI (uL s 19 (acL b st (st + k - st))) 16 (nI (st + k)) = s
      rw [show st + k - st = k by omega, ← h19, uL_self, ← h16, uI_self]
    rw [e1]
    refine lp_e ?_
    dsimp only [X12_next_b109]
    rw [h16, r_lookE (p := st + k) ht (by omega), ob_s, r_isLt (by omega), ob_s]; rfl
  | m + 1, k, s, N + 1, ht, h15, h16, h19, hN => by
    have he := ht.2.1
    have hb := (ht.2.2 (st + k) (by omega)).1
    have h0 : (fun (q : RS) => X12_next_b109 q) s = if isLt (b (st + k)) = true then some (.inl (uI (uL s 19 (acL b st (k + 1))) 16 (nI (st + k + 1)))) else some (.inr s) := by
      dsimp only [X12_next_b109, X12_next_j166]
      rw [h15, h16, r_look ht (by omega), ob_s, ob_s, r_isLt hb, ob_s, sbI (by omega), show st + k - st = k by omega, show (8 : Int32) = nI 8 from rfl, ifLe (by omega) (by omega), thn_eq, thn_eq, thn_eq, thn_eq]
      have k16 : ∀ v, (uL s 19 v).1 16 = nI (st + k) := fun v => h16
      rw [k16, k16, nI_1]
      cases c : isLt (b (st + k)) with
      | false => rfl
      | true =>
        have cl : 97 ≤ b (st + k) ∧ b (st + k) ≤ 122 := of_decide_eq_true c
        rw [if_pos rfl, if_pos rfl]
        by_cases c8 : 8 ≤ k
        · rw [if_pos c8, show acL b st (k + 1) = -1 from if_neg (by omega)]
        · have ea : acL b st (k + 1) = s.2.1 19 * (32 : Int64) + (nI (b (st + k))).toInt64 - (96 : Int64) := by
            rw [h19, show acL b st k = lN (w32 b st k) from if_pos (by omega), show acL b st (k + 1) = lN (w32 b st k * 32 + (b (st + k) - 96)) from if_pos (by omega), nI_l (by omega), show (32 : Int64) = lN 32 from rfl, show (96 : Int64) = lN 96 from rfl, lN_mul, lN_add, lN_sub (by omega), show w32 b st k * 32 + b (st + k) - 96 = w32 b st k * 32 + (b (st + k) - 96) by omega]
          rw [if_neg c8, ea]
    show _ = some (uI (uL s 19 (acL b st ((if isLt (b (st + k)) = true then scn (fun i => isLt (b i)) m (st + k + 1) else st + k) - st))) 16 (nI (if isLt (b (st + k)) = true then scn (fun i => isLt (b i)) m (st + k + 1) else st + k)))
    cases c : isLt (b (st + k)) with
    | true =>
      rw [c, if_pos rfl] at h0
      have ih := r_word st m (k + 1) (uI (uL s 19 (acL b st (k + 1))) 16 (nI (st + k + 1))) N ⟨by rw [show st + (k + 1) + m = st + k + (m + 1) by omega]; exact ht.1, by omega, fun i hi => ht.2.2 i (by omega)⟩ h15 rfl (uL_at s 19 (acL b st (k + 1))) (by omega)
      rw [lp_s h0, ih, if_pos rfl, show uL (uI (uL s 19 (acL b st (k + 1))) 16 (nI (st + k + 1))) 19 (acL b st (scn (fun i => isLt (b i)) m (st + (k + 1)) - st)) = uI (uL (uL s 19 (acL b st (k + 1))) 19 (acL b st (scn (fun i => isLt (b i)) m (st + (k + 1)) - st))) 16 (nI (st + k + 1)) from rfl, uL_uL, uI_uI]; rfl
    | false =>
      rw [c, if_neg (by decide)] at h0
      rw [lp_e h0, if_neg (by decide), show st + k - st = k by omega, ← h19, uL_self, ← h16, uI_self]
/-- the value of k digits -/
def acD (b : Nat → Nat) (p k : Nat) : Nat := w10 b p (if k ≤ 4 then k else 4)
theorem r_digs (st : Nat) : ∀ (m k : Nat) (s : RS) (N : Nat), txR b (st + k + m) s → s.1 15 = nI st → s.1 16 = nI (st + k) → s.1 17 = nI (acD b st k) → m < N → a_loop (fun (q : RS) => X12_next_b210 q) N s = some (uI (uI s 17 (nI (acD b st (scn (fun i => isDg (b i)) m (st + k) - st)))) 16 (nI (scn (fun i => isDg (b i)) m (st + k))))
  | m, k, s, 0, _, _, _, _, h => absurd h (Nat.not_lt_zero _)
  | 0, k, s, N + 1, ht, h15, h16, h17, _ => by
    have e1 : uI (uI s 17 (nI (acD b st (scn (fun i => isDg (b i)) 0 (st + k) - st)))) 16 (nI (scn (fun i => isDg (b i)) 0 (st + k))) = s := by
      show uI (uI s 17 (nI (acD b st (st + k - st)))) 16 (nI (st + k)) = s
      rw [show st + k - st = k by omega, ← h17, uI_self, ← h16, uI_self]
    rw [e1]
    refine lp_e ?_
    dsimp only [X12_next_b210]
    rw [h16, r_lookE (p := st + k) ht (by omega), ob_s, r_isDg (by omega), ob_s]; rfl
  | m + 1, k, s, N + 1, ht, h15, h16, h17, hN => by
    have he := ht.2.1
    have hb := (ht.2.2 (st + k) (by omega)).1
    have h0 : (fun (q : RS) => X12_next_b210 q) s = if isDg (b (st + k)) = true then some (.inl (uI (uI s 17 (nI (acD b st (k + 1)))) 16 (nI (st + k + 1)))) else some (.inr s) := by
      dsimp only [X12_next_b210, X12_next_j260]
      rw [h15, h16, r_look ht (by omega), ob_s, ob_s, r_isDg hb, ob_s, sbI (by omega), show st + k - st = k by omega, show (4 : Int32) = nI 4 from rfl, ifLe (by omega) (by omega), thn_eq, thn_eq, thn_eq]
      have k16 : ∀ v, (uI s 17 v).1 16 = nI (st + k) := fun v => h16
      rw [k16, nI_1]
      cases c : isDg (b (st + k)) with
      | false => rfl
      | true =>
        have cl : 48 ≤ b (st + k) ∧ b (st + k) ≤ 57 := of_decide_eq_true c
        rw [if_pos rfl, if_pos rfl]
        by_cases c4 : 4 ≤ k
        · have ea : nI (acD b st (k + 1)) = s.1 17 := by
            rw [h17]
            unfold acD
            rw [if_neg (by omega)]
            by_cases ck : k ≤ 4
            · rw [if_pos ck, show k = 4 by omega]
            · rw [if_neg ck]
          rw [if_pos c4, ea, uI_self]
        · have ea : nI (acD b st (k + 1)) = (10 : Int32) * s.1 17 + nI (b (st + k)) - (48 : Int32) := by
            rw [h17]
            unfold acD
            rw [if_pos (by omega), if_pos (by omega), show (10 : Int32) = nI 10 from rfl, show (48 : Int32) = nI 48 from rfl, pk_mul, nI_add, sbI (by omega), show 10 * w10 b st k + b (st + k) - 48 = w10 b st k * 10 + (b (st + k) - 48) by omega]; rfl
          rw [if_neg c4, ea]
    show _ = some (uI (uI s 17 (nI (acD b st ((if isDg (b (st + k)) = true then scn (fun i => isDg (b i)) m (st + k + 1) else st + k) - st)))) 16 (nI (if isDg (b (st + k)) = true then scn (fun i => isDg (b i)) m (st + k + 1) else st + k)))
    cases c : isDg (b (st + k)) with
    | true =>
      rw [c, if_pos rfl] at h0
      have ih := r_digs st m (k + 1) (uI (uI s 17 (nI (acD b st (k + 1)))) 16 (nI (st + k + 1))) N ⟨by rw [show st + (k + 1) + m = st + k + (m + 1) by omega]; exact ht.1, by omega, fun i hi => ht.2.2 i (by omega)⟩ h15 rfl rfl (by omega)
      have sw : ∀ x y : Int32, uI (uI (uI s 17 x) 16 y) 17 (nI (acD b st (scn (fun i => isDg (b i)) m (st + (k + 1)) - st))) = uI (uI s 17 (nI (acD b st (scn (fun i => isDg (b i)) m (st + (k + 1)) - st)))) 16 y := fun x y => by
        have : ∀ z : Int32, va_up (va_up (va_up s.1 17 x) 16 y) 17 z = va_up (va_up s.1 17 z) 16 y := fun z => by
          funext j
          unfold va_up
          by_cases c1 : j = 17
          · rw [if_pos c1, if_neg (by omega), if_pos c1]
          · rw [if_neg c1, if_neg c1, if_neg c1]
        show (va_up (va_up (va_up s.1 17 x) 16 y) 17 _, s.2) = _
        rw [this]; rfl
      rw [lp_s h0, ih, if_pos rfl, sw, uI_uI]; rfl
    | false =>
      rw [c, if_neg (by decide)] at h0
      rw [lp_e h0, if_neg (by decide), show st + k - st = k by omega, ← h17, uI_self, ← h16, uI_self]
end V
