/-! TEXTS: the class lays the tokens out -/
def tsq (b : Nat → Nat) (e : Nat) : Nat → Nat
  | 0 => tkS b e 0
  | j + 1 => tkS b e (tkB b e (tsq b e j))
/-- a token's row -/
def tokX (tb : Nat → Int64) (b : Nat → Nat) (e i st : Nat) (q : RS) : Prop := st < e ∧ q.2.2.1 6 i = nI (kdC tb b e st) ∧ q.2.2.1 7 i = nI st ∧ (isLt (b st) = true → q.2.2.2 8 i = lN (a27 b st (tkW b e st - st))) ∧ (isLt (b st) = false → isDg (b st) = true → q.2.2.2 8 i = lN (acD b st (tkD b e st - st)))
/-- only the rows of tokens have changed, at j -/
def tkQ (j : Nat) (q q' : RS) : Prop := q'.1 = q.1 ∧ q'.2.1 = q.2.1 ∧ (∀ n, n ≠ 6 → n ≠ 7 → q'.2.2.1 n = q.2.2.1 n) ∧ (∀ n, n ≠ 8 → q'.2.2.2 n = q.2.2.2 n) ∧ ∀ i, i ≠ j → q'.2.2.1 6 i = q.2.2.1 6 i ∧ q'.2.2.1 7 i = q.2.2.1 7 i ∧ q'.2.2.2 8 i = q.2.2.2 8 i
theorem tkB_gt {b : Nat → Nat} {e p : Nat} (h : p < e) : p < tkB b e p := by
  have hs : ∀ f : Nat → Bool, f p = true → p < scn f (e - p) p := fun f hf => by
    obtain ⟨m, hm⟩ := Nat.exists_eq_succ_of_ne_zero (show e - p ≠ 0 by omega)
    rw [hm]
    show p < if f p = true then scn f m (p + 1) else p
    rw [if_pos hf]
    have := scn_le f m (p + 1)
    omega
  unfold tkB
  rw [if_neg (by omega)]
  cases c : isLt (b p) with
  | true => rw [if_pos rfl]; exact hs (fun i => isLt (b i)) c
  | false =>
    rw [if_neg (by decide)]
    cases d : isDg (b p) with
    | true => rw [if_pos rfl]; exact hs (fun i => isDg (b i)) d
    | false => rw [if_neg (by decide)]; omega
section V
variable {q : RS} {b : Nat → Nat} {e : Nat} {tb : Nat → Int64}
theorem x_addToken (ht : txX b e q) {j st : Nat} (hj : q.1 9 = nI j) (hj9 : j < 900) (hst : st < e) : ∃ q', pX8_addToken q (nI st) = some (nI (tkB b e st), q') ∧ tokX (q.2.2.2 1) b e j st q' ∧ tkQ j q q' := by
  have he := ht.2.1
  have hb := (ht.2.2 st hst).1
  unfold pX8_addToken
  rw [hj, g_inT (by omega) (by omega), nI_clamp (by omega), thn_eq]
  have t1 : txX b e (uA q 7 (upd (q.2.2.1 7) j (nI st))) := ht
  have k9 : (uA q 7 (upd (q.2.2.1 7) j (nI st))).1 9 = nI j := hj
  have r7 : (uA q 7 (upd (q.2.2.1 7) j (nI st))).2.2.1 7 = upd (q.2.2.1 7) j (nI st) := uA_at _ _ _
  have r6 : (uA q 7 (upd (q.2.2.1 7) j (nI st))).2.2.1 6 = q.2.2.1 6 := uA_ne _ _ (by decide)
  have ro : ∀ n, n ≠ 7 → (uA q 7 (upd (q.2.2.1 7) j (nI st))).2.2.1 n = q.2.2.1 n := fun n hn => uA_ne _ _ hn
  have rl : (uA q 7 (upd (q.2.2.1 7) j (nI st))).2.2.2 = q.2.2.2 := rfl
  have ri : (uA q 7 (upd (q.2.2.1 7) j (nI st))).1 = q.1 := rfl
  have rm : (uA q 7 (upd (q.2.2.1 7) j (nI st))).2.1 = q.2.1 := rfl
  generalize uA q 7 (upd (q.2.2.1 7) j (nI st)) = q1 at *
  rw [g_inT (by omega) (by omega), nI_clamp (by omega), (t1.2.2 st hst).2, x_isLt hb, ob_s, k9]
  cases cl : isLt (b st) with
  | true =>
    have hW := tkW_le (b := b) (e := e) (p := st) (by omega)
    have eB : tkB b e st = tkW b e st := by unfold tkB; rw [if_neg (by omega), cl, if_pos rfl]
    have ek : kdC (q.2.2.2 1) b e st = if tkW b e st - st ≤ 8 then fsN (fun i => decide (q.2.2.2 1 i = lN (w27 b st (tkW b e st - st)))) 28 else 29 := by unfold kdC; rw [cl, if_pos rfl]
    have w := x_wordL t1 st (e - st) 0 FU (by omega) (by show _ < 100000; omega)
    have w' : a_loop (fun (y : Int32 × Int64) => X8_addWord_b4 (nI st) y.1 y.2 q1) FU (nI st, (0 : Int64)) = some (nI (tkW b e st), lN (a27 b st (tkW b e st - st))) := w
    rw [if_pos rfl]
    unfold pX8_addWord
    rw [thn_eq, w', ob_s]
    unfold X8_addWord_j49
    rw [k9, g_inT (by omega) (by omega), nI_clamp (by omega), thn_eq, sbI (by omega), show (8 : Int32) = nI 8 from rfl, ifLe (by omega) (by omega)]
    have k9' : (uB q1 8 (vp_updL (q1.2.2.2 8) j (lN (a27 b st (tkW b e st - st))))).1 9 = nI j := k9
    have kt : (uB q1 8 (vp_updL (q1.2.2.2 8) j (lN (a27 b st (tkW b e st - st))))).2.2.2 1 = q.2.2.2 1 := by rw [← rl]; rfl
    have fin : ∀ kd : Nat, kd = kdC (q.2.2.2 1) b e st → ∃ q', X8_addWord_j85 (nI (tkW b e st)) (nI j) (nI kd) (uB q1 8 (vp_updL (q1.2.2.2 8) j (lN (a27 b st (tkW b e st - st))))) = some (nI (tkB b e st), q') ∧ tokX (q.2.2.2 1) b e j st q' ∧ tkQ j q q' := by
      intro kd hkd
      unfold X8_addWord_j85
      rw [g_inT (by omega) (by omega), nI_clamp (by omega), thn_eq, eB]
      refine ⟨_, rfl, ⟨hst, ?_, ?_, fun _ => ?_, fun h => (by rw [cl] at h; cases h)⟩, ri, rm, ?_, ?_, ?_⟩
      · rw [uA_at, upd_at, hkd]
      · rw [uA_ne _ _ (by decide)]; show q1.2.2.1 7 j = _; rw [r7, upd_at]
      · exact (congrFun (uB_at q1 8 _) j).trans (updL_at _ _ _)
      · intro n h6 h7; rw [uA_ne _ _ h6]; exact ro n h7
      · intro n h8; show va_up q1.2.2.2 8 _ n = _; unfold va_up; rw [if_neg h8, rl]
      · intro i hi
        refine ⟨?_, ?_, ?_⟩
        · rw [uA_at, upd_ne _ _ hi]; exact congrFun r6 i
        · rw [uA_ne _ _ (by decide)]; show q1.2.2.1 7 i = _; rw [r7, upd_ne _ _ hi]
        · exact (congrFun (uB_at q1 8 _) i).trans ((updL_ne _ _ hi).trans (congrFun (congrFun rl 8) i))
    by_cases c8 : tkW b e st - st ≤ 8
    · rw [if_pos c8, k9', x_kindOf, ob_s, kt]
      rw [if_pos c8] at ek
      have e27 : a27 b st (tkW b e st - st) = w27 b st (tkW b e st - st) := by unfold a27; rw [if_pos c8]
      obtain ⟨q', f1, f2, f3⟩ := fin _ ek.symm
      rw [e27] at f1 ⊢
      rw [f1, ob_s]
      exact ⟨q', rfl, f2, f3⟩
    · rw [if_neg c8, k9']
      rw [if_neg c8] at ek
      obtain ⟨q', f1, f2, f3⟩ := fin 29 ek.symm
      rw [show (29 : Int32) = nI 29 from rfl, f1, ob_s]
      exact ⟨q', rfl, f2, f3⟩
  | false =>
    rw [if_neg (by decide), g_inT (by omega) (by omega), x_isDg hb, ob_s]
    cases cd : isDg (b st) with
    | true =>
      have hD := tkD_le (b := b) (e := e) (p := st) (by omega)
      have eB : tkB b e st = tkD b e st := by unfold tkB; rw [if_neg (by omega), cl, if_neg (by decide), cd, if_pos rfl]
      have ek : kdC (q.2.2.2 1) b e st = if tkD b e st - st ≤ 4 then 30 else 32 := by unfold kdC; rw [cl, if_neg (by decide), cd, if_pos rfl]
      have w := x_digsL t1 st (e - st) 0 FU (by omega) (by show _ < 100000; omega)
      have w' : a_loop (fun (y : Int32 × Int64) => X8_addNumber_b4 (nI st) y.1 y.2 q1) FU (nI st, (0 : Int64)) = some (nI (tkD b e st), lN (acD b st (tkD b e st - st))) := w
      rw [if_pos rfl]
      unfold pX8_addNumber
      rw [thn_eq, w', ob_s]
      unfold X8_addNumber_j54
      rw [k9, g_inT (by omega) (by omega), nI_clamp (by omega), thn_eq, sbI (by omega), show (4 : Int32) = nI 4 from rfl, ifLe (by omega) (by omega)]
      have k9' : (uB q1 8 (vp_updL (q1.2.2.2 8) j (lN (acD b st (tkD b e st - st))))).1 9 = nI j := k9
      have fin : ∀ kd : Nat, kd = kdC (q.2.2.2 1) b e st → ∃ q', X8_addNumber_j86 (nI (tkD b e st)) (nI j) (nI kd) (uB q1 8 (vp_updL (q1.2.2.2 8) j (lN (acD b st (tkD b e st - st))))) = some (nI (tkB b e st), q') ∧ tokX (q.2.2.2 1) b e j st q' ∧ tkQ j q q' := by
        intro kd hkd
        unfold X8_addNumber_j86
        rw [g_inT (by omega) (by omega), nI_clamp (by omega), thn_eq, eB]
        refine ⟨_, rfl, ⟨hst, ?_, ?_, fun h => (by rw [cl] at h; cases h), fun _ _ => ?_⟩, ri, rm, ?_, ?_, ?_⟩
        · rw [uA_at, upd_at, hkd]
        · rw [uA_ne _ _ (by decide)]; show q1.2.2.1 7 j = _; rw [r7, upd_at]
        · exact (congrFun (uB_at q1 8 _) j).trans (updL_at _ _ _)
        · intro n h6 h7; rw [uA_ne _ _ h6]; exact ro n h7
        · intro n h8; show va_up q1.2.2.2 8 _ n = _; unfold va_up; rw [if_neg h8, rl]
        · intro i hi
          refine ⟨?_, ?_, ?_⟩
          · rw [uA_at, upd_ne _ _ hi]; exact congrFun r6 i
          · rw [uA_ne _ _ (by decide)]; show q1.2.2.1 7 i = _; rw [r7, upd_ne _ _ hi]
          · exact (congrFun (uB_at q1 8 _) i).trans ((updL_ne _ _ hi).trans (congrFun (congrFun rl 8) i))
      by_cases c4 : tkD b e st - st ≤ 4
      · rw [if_pos c4, k9']
        rw [if_pos c4] at ek
        obtain ⟨q', f1, f2, f3⟩ := fin 30 ek.symm
        rw [show (30 : Int32) = nI 30 from rfl, f1, ob_s]
        exact ⟨q', rfl, f2, f3⟩
      · rw [if_neg c4, k9']
        rw [if_neg c4] at ek
        obtain ⟨q', f1, f2, f3⟩ := fin 32 ek.symm
        rw [show (32 : Int32) = nI 32 from rfl, f1, ob_s]
        exact ⟨q', rfl, f2, f3⟩
    | false =>
      have eB : tkB b e st = st + 1 := by unfold tkB; rw [if_neg (by omega), cl, if_neg (by decide), cd, if_neg (by decide)]
      have ek : kdC (q.2.2.2 1) b e st = if b st = 59 then 31 else 32 := by unfold kdC; rw [cl, if_neg (by decide), cd, if_neg (by decide)]
      rw [if_neg (by decide), g_inT (by omega) (by omega)]
      have fin : ∀ kd : Nat, kd = kdC (q.2.2.2 1) b e st → ∃ q', X8_addToken_j72 (nI st) (nI j) (nI kd) q1 = some (nI (tkB b e st), q') ∧ tokX (q.2.2.2 1) b e j st q' ∧ tkQ j q q' := by
        intro kd hkd
        unfold X8_addToken_j72
        rw [g_inT (by omega) (by omega), nI_clamp (by omega), thn_eq, eB, nI_1]
        refine ⟨_, rfl, ⟨hst, ?_, ?_, fun h => (by rw [cl] at h; cases h), fun _ h => (by rw [cd] at h; cases h)⟩, ri, rm, ?_, ?_, ?_⟩
        · rw [uA_at, upd_at, hkd]
        · rw [uA_ne _ _ (by decide), r7, upd_at]
        · intro n h6 h7; rw [uA_ne _ _ h6]; exact ro n h7
        · intro n h8; exact congrFun rl n
        · intro i hi
          refine ⟨?_, ?_, ?_⟩
          · rw [uA_at, upd_ne _ _ hi]; exact congrFun r6 i
          · rw [uA_ne _ _ (by decide), r7, upd_ne _ _ hi]
          · exact congrFun (congrFun rl 8) i
      by_cases c9 : b st = 59
      · rw [if_pos ((sB_is hb).2.2.mpr c9)]
        rw [if_pos c9] at ek
        exact fin 31 ek.symm
      · rw [if_neg (fun h => c9 ((sB_is hb).2.2.mp h))]
        rw [if_neg c9] at ek
        exact fin 32 ek.symm
end V
