/-! POUR -/
/-- a row moved within a row, as it was -/
def mvL (f : Nat → Int64) (sp dp n : Nat) : Nat → Int64 := fun x => if dp ≤ x ∧ x < dp + n then f (sp + (x - dp)) else f x
theorem r_pour {S : RS} {i a j b n : Nat} (hi : i < 4) (hj : j < 4) (ha : a + n ≤ 60) (hb : b + n ≤ 60) (rises : Bool) (hr : rises = true → a ≤ b) (hf : rises = false → b ≤ a) : ∃ S', X12_pour_j153 (nI i) (nI a) (nI j) (nI b) (nI n) rises S = some (true, S') ∧ sxB 2 S S' ∧ ∀ x, S'.2.2.2 2 x = mvL (S.2.2.2 2) (60 * i + a) (60 * j + b) n x := by
  unfold X12_pour_j153
  have idx : ∀ m, m < n → nI 60 * nI i + nI a + nI m = nI (60 * i + a + m) ∧ nI 60 * nI j + nI b + nI m = nI (60 * j + b + m) := fun m _ => by
    rw [pk_mul, pk_mul, nI_add, nI_add, nI_add, nI_add]; exact ⟨rfl, rfl⟩
  have step : ∀ (k m : Nat) (s : RS), m < n → X12_pour_j182 (nI i) (nI a) (nI j) (nI b) (nI n) rises (nI k) (nI m) s = some (.inl (nI (k + 1), uB s 2 (vp_updL (s.2.2.2 2) (60 * j + b + m) (s.2.2.2 2 (60 * i + a + m))))) := by
    intro k m s hm
    unfold X12_pour_j182
    rw [show (60 : Int32) = nI 60 from rfl, (idx m hm).1, (idx m hm).2, g_inT (by omega) (by omega), g_inT (by omega) (by omega), nI_clamp (by omega), nI_clamp (by omega), thn_eq, thn_eq, nI_1]
  cases rises with
  | true =>
    have hab := hr rfl
    obtain ⟨S', g1, g2, g3⟩ := lp_m (body := fun (q : Int32 × RS) => X12_pour_b158 (nI i) (nI a) (nI j) (nI b) (nI n) true q.1 q.2) (I := fun d q => ∃ k S', k ≤ n ∧ d = n - k ∧ q = (nI k, S') ∧ sxB 2 S S' ∧ ∀ x, S'.2.2.2 2 x = if 60 * j + b + (n - k) ≤ x ∧ x < 60 * j + b + n then S.2.2.2 2 (60 * i + a + (x - (60 * j + b))) else S.2.2.2 2 x) (P := fun S' => sxB 2 S S' ∧ ∀ x, S'.2.2.2 2 x = mvL (S.2.2.2 2) (60 * i + a) (60 * j + b) n x) (fun d q hd => by
      obtain ⟨k, S', hk, rfl, rfl, hs, hx⟩ := hd
      dsimp only [X12_pour_b158]
      rcases Nat.lt_or_eq_of_le hk with c | c
      · left
        refine ⟨n - (k + 1), (nI (k + 1), uB S' 2 (vp_updL (S'.2.2.2 2) (60 * j + b + (n - 1 - k)) (S'.2.2.2 2 (60 * i + a + (n - 1 - k))))), by omega, ⟨k + 1, _, by omega, rfl, rfl, sxB_tr hs (sxB_uB _ _ _), fun x => ?_⟩, ?_⟩
        · rw [uB_at]
          by_cases e : x = 60 * j + b + (n - 1 - k)
          · rw [e, updL_at, if_pos (by omega), hx, if_neg (by omega)]
            rw [show 60 * j + b + (n - 1 - k) - (60 * j + b) = n - 1 - k by omega]
          · rw [updL_ne _ _ e, hx]
            by_cases q : 60 * j + b + (n - k) ≤ x ∧ x < 60 * j + b + n
            · rw [if_pos q, if_pos (by omega)]
            · rw [if_neg q, if_neg (by omega)]
        · rw [if_neg (nI_ge c (by omega)), if_pos rfl, show (1 : Int32) = nI 1 from rfl, sbI (by omega), sbI (by omega), step k (n - 1 - k) S' (by omega)]
      · subst c
        refine Or.inr ⟨S', ⟨hs, fun x => ?_⟩, by rw [if_pos (nI_le (Nat.le_refl _) (by omega))]⟩
        rw [hx]
        unfold mvL
        by_cases q : 60 * j + b ≤ x ∧ x < 60 * j + b + k
        · rw [if_pos q, if_pos (by omega)]
        · rw [if_neg q, if_neg (by omega)]) FU n (nI 0, S) (by show n < 100000; omega) ⟨0, S, Nat.zero_le _, rfl, rfl, sxB_rf _ _, fun x => by rw [if_neg (by omega)]⟩
    exact ⟨S', bd g1 rfl, g2, g3⟩
  | false =>
    have hab := hf rfl
    obtain ⟨S', g1, g2, g3⟩ := lp_m (body := fun (q : Int32 × RS) => X12_pour_b158 (nI i) (nI a) (nI j) (nI b) (nI n) false q.1 q.2) (I := fun d q => ∃ k S', k ≤ n ∧ d = n - k ∧ q = (nI k, S') ∧ sxB 2 S S' ∧ ∀ x, S'.2.2.2 2 x = mvL (S.2.2.2 2) (60 * i + a) (60 * j + b) k x) (P := fun S' => sxB 2 S S' ∧ ∀ x, S'.2.2.2 2 x = mvL (S.2.2.2 2) (60 * i + a) (60 * j + b) n x) (fun d q hd => by
      obtain ⟨k, S', hk, rfl, rfl, hs, hx⟩ := hd
      dsimp only [X12_pour_b158]
      rcases Nat.lt_or_eq_of_le hk with c | c
      · left
        refine ⟨n - (k + 1), (nI (k + 1), uB S' 2 (vp_updL (S'.2.2.2 2) (60 * j + b + k) (S'.2.2.2 2 (60 * i + a + k)))), by omega, ⟨k + 1, _, by omega, rfl, rfl, sxB_tr hs (sxB_uB _ _ _), fun x => ?_⟩, ?_⟩
        · rw [uB_at]
          have hx2 := hx (60 * i + a + k)
          unfold mvL at hx hx2 ⊢
          rw [if_neg (by omega)] at hx2
          by_cases e : x = 60 * j + b + k
          · rw [e, updL_at, if_pos (by omega), hx2]
            rw [show 60 * j + b + k - (60 * j + b) = k by omega]
          · rw [updL_ne _ _ e, hx]
            by_cases q : 60 * j + b ≤ x ∧ x < 60 * j + b + k
            · rw [if_pos q, if_pos (by omega)]
            · rw [if_neg q, if_neg (by omega)]
        · rw [if_neg (nI_ge c (by omega)), if_neg (by decide), step k k S' (by omega)]
      · subst c
        exact Or.inr ⟨S', ⟨hs, hx⟩, by rw [if_pos (nI_le (Nat.le_refl _) (by omega))]⟩) FU n (nI 0, S) (by show n < 100000; omega) ⟨0, S, Nat.zero_le _, rfl, rfl, sxB_rf _ _, fun x => by unfold mvL; rw [if_neg (by omega)]⟩
    exact ⟨S', bd g1 rfl, g2, g3⟩
theorem cp_in {γ : Type} {a b n : Nat} (ha : a + n ≤ 60) (hb : b + n ≤ 60) (e : Option γ) : g_cp (nI a) (nI b) (nI n) 60 60 e = e := by
  unfold g_cp
  rw [if_neg]
  rw [nI_clamp (by omega), nI_clamp (by omega), nI_clamp (by omega)]
  rintro (q | q | q | q | q)
  · exact nI_pos (by omega) q
  · exact nI_pos (by omega) q
  · exact nI_pos (by omega) q
  · omega
  · omega
/-- a stretch that a TRAY has -/
theorem x_spans {T : RS} {m : Nat} (hT : T.1 2 = nI m) (hm : m ≤ 60) (a1 : Int32) {n : Nat} (hn : n < 2 ^ 31) : (∃ a, a + n ≤ m ∧ a1 = nI a ∧ pX9_spans T a1 (nI n) = some true) ∨ (pX9_spans T a1 (nI n) = some false ∧ (a1 < 0 ∨ ∃ a, a < 2 ^ 31 ∧ m < a + n ∧ a1 = nI a)) := by
  unfold pX9_spans
  rw [hT, if_neg (show ¬ nI n < 0 from nI_pos hn)]
  by_cases c : a1 < 0
  · exact Or.inr ⟨by rw [if_pos c], Or.inl c⟩
  · obtain ⟨a, h1, rfl⟩ := nI_of c
    rw [if_neg c]
    by_cases c2 : m < a
    · exact Or.inr ⟨by rw [if_pos (nI_lt c2 (by omega))], Or.inr ⟨a, h1, by omega, rfl⟩⟩
    · rw [if_neg (nI_nlt (by omega) (by omega)), sbI (by omega), ifLt (by omega) (by omega)]
      by_cases c3 : m - a < n
      · exact Or.inr ⟨by rw [if_pos c3], Or.inr ⟨a, h1, by omega, rfl⟩⟩
      · exact Or.inl ⟨a, by omega, rfl, by rw [if_neg c3]⟩
section Q
variable {s s0 : RS}
def pouR (s s0 T2 : RS) (j' : Int32) (R : Option (Bool × RS)) (X : Option (Bool × RS × RS)) : Prop := (∃ s', R = some (false, s') ∧ rsame s s' ∧ X = some (false, uI s0 11 (s'.1 0), T2)) ∨ ∃ j s' T', j < 4 ∧ j' = nI j ∧ R = some (true, s') ∧ trM j s s' ∧ s'.1 0 = 0 ∧ trR s' j T' ∧ X = some (true, uI s0 11 0, T')
theorem q_pour2 {T1 T2 : RS} (a0 a1 a2 a3 a4 : Int32) (h1 : ∀ i, i < 4 → a0 = nI i → trR s i T1) (h2 : ∀ i, i < 4 → a2 = nI i → trR s i T2) {X : Option (Bool × RS × RS)}
    (hX : X = ((pX11_isTray a0).bind fun x1 => if x1 = true then (pX11_isTray a2).bind fun x3 => if x3 = true then g_in a0 4 (g_in a2 4 ((pX9_isMissing T1).bind fun x4 => if x4 = true then some (false, uI s0 11 3, T2) else (pX9_isMissing T2).bind fun x6 => if x6 = true then some (false, uI s0 11 3, T2) else if (T1.1 1) = (T2.1 1) then if 0 ≤ a4 then (pX9_spans T1 a1 a4).bind fun x7 => if x7 = true then (pX9_spans T2 a3 a4).bind fun x9 => if x9 = true then g_cp a1 a3 a4 60 60 (some (true, uI s0 11 0, uB T2 0 (va_cpy (T1.2.2.2 0) (T2.2.2.2 0) a1.toNatClampNeg a3.toNatClampNeg a4.toNatClampNeg))) else some (false, uI s0 11 4, T2) else some (false, uI s0 11 4, T2) else some (false, uI s0 11 6, T2) else some (false, uI s0 11 11, T2))) else some (false, uI s0 11 1, T2) else some (false, uI s0 11 1, T2))) : pouR s s0 T2 a2 (pX12_pour s a0 a1 a2 a3 a4) X := by
  subst hX
  have no : ∀ (w : Int32), pX12_no (uI (uI s 1 0) 0 0) w = some (false, uI (uI (uI s 1 0) 0 0) 0 w) := fun _ => rfl
  have leaf : ∀ (w : Int32) (R : Option (Bool × RS)) (X : Option (Bool × RS × RS)), R = some (false, uI (uI (uI s 1 0) 0 0) 0 w) → X = some (false, uI s0 11 w, T2) → pouR s s0 T2 a2 R X := fun w R X e1 e2 => Or.inl ⟨_, e1, rq_3 _ _ _ _, e2⟩
  unfold pX12_pour X12_pour_j28 X12_pour_j52 X12_pour_j136
  simp only [thn_eq, no, ob_s]
  rcases is_tray s a0 with ⟨i, hi, rfl, e1, e2, b1, b2⟩ | ⟨e1, e2, h⟩
  · rcases is_tray s a2 with ⟨j, hj, rfl, e3, e4, b3, b4⟩ | ⟨e3, e4, h⟩
    · have b5 : nI j < (4 : Int32) := nI_lt (b := 4) hj (by omega)
      have tr1 := h1 i hi rfl
      have tr2 := h2 j hj rfl
      rw [if_neg b1, if_neg b2, if_neg b3, if_pos b5, e2, e4, ob_s, ob_s, if_pos rfl, if_pos rfl]
      simp only [tr_in hi, tr_in hj]
      rw [nI_clamp (by omega), nI_clamp (by omega)]
      unfold pX9_isMissing
      have f1 : (uI (uI s 1 (0 : Int32)) 0 (0 : Int32)).2.2.1 1 = s.2.2.1 1 := rfl
      have f0 : (uI (uI s 1 (0 : Int32)) 0 (0 : Int32)).2.2.1 0 = s.2.2.1 0 := rfl
      rw [f1, f0]
      rcases tr1 with ⟨m1, m2⟩ | ⟨so, m, p1, p2, p3, p4, p5, p6, p7⟩
      · refine leaf 3 _ _ ?_ ?_
        · rw [m1, if_pos (show m1I < (0 : Int32) by decide)]
        · rw [m2, if_pos (show m1I = (-1 : Int32) from rfl)]; rfl
      · have n1 : ¬ nI so = (-1 : Int32) := by rw [show (-1 : Int32) = m1I from rfl, m1_ne (by omega)]; exact not_false
        rw [p4, p5, if_neg (show ¬ nI m < 0 from nI_pos (by omega)), if_neg n1, ob_s, if_neg (show ¬ (false = true) by decide)]
        rcases tr2 with ⟨m1, m2⟩ | ⟨so2, m2, q1, q2, q3, q4, q5, q6, q7⟩
        · refine leaf 3 _ _ ?_ ?_
          · rw [m1, if_neg (show ¬ (0 : Int32) ≤ m1I by decide)]
          · rw [m2, if_pos (show m1I = (-1 : Int32) from rfl)]; rfl
        · have n2 : ¬ nI so2 = (-1 : Int32) := by rw [show (-1 : Int32) = m1I from rfl, m1_ne (by omega)]; exact not_false
          rw [q4, q5, if_pos (show (0 : Int32) ≤ nI m2 from nI_pos' (by omega)), if_neg n2, ob_s, if_neg (show ¬ (false = true) by decide), p3, q3, ifE (by omega) (by omega), ifE (by omega) (by omega)]
          by_cases c1 : so = so2
          · rw [if_pos c1, if_pos c1]
            by_cases c2 : (0 : Int32) ≤ a4
            · have c2' : ¬ a4 < 0 := fun q => by
                rw [Int32.lt_iff_toInt_lt] at q
                rw [Int32.le_iff_toInt_le] at c2
                omega
              obtain ⟨n, hn, rfl⟩ := nI_of c2'
              rw [if_pos c2, if_pos c2]
              rcases x_spans p6 p2 a1 hn with ⟨a, ha, rfl, e5⟩ | ⟨e5, h5⟩
              · have ga : ¬ nI a < 0 := nI_pos (by omega)
                rw [e5, ob_s, if_pos rfl, if_neg ga]
                rcases x_spans q6 q2 a3 hn with ⟨b, hb, rfl, e6⟩ | ⟨e6, h6⟩
                · have gb : ¬ nI b < 0 := nI_pos (by omega)
                  rw [e6, ob_s, if_pos rfl, if_neg gb, nI_l (by omega), nI_l (by omega), nI_l (by omega), nI_l (by omega), nI_l (by omega), lN_add, lN_add, if_neg (fun q => by have := (lN_lt (by omega) (by omega)).mp q; omega), if_pos ((lN_le (by omega) (by omega)).mpr hb), cp_in (by omega) (by omega), nI_clamp (by omega), nI_clamp (by omega), nI_clamp (by omega)]
                  have fin : ∀ S', sxB 2 (uI (uI s 1 0) 0 0) S' → (∀ x, S'.2.2.2 2 x = mvL (s.2.2.2 2) (60 * i + a) (60 * j + b) n x) → pouR s s0 T2 (nI j) (some (true, S')) (some (true, uI s0 11 0, uB T2 0 (va_cpy (T1.2.2.2 0) (T2.2.2.2 0) a b n))) := fun S' g2 g3 => by
                    refine Or.inr ⟨j, S', _, hj, rfl, rfl, ⟨⟨?_, ?_, ?_, ?_⟩, fun x hx => ?_, fun x hx => ?_⟩, ?_, ?_, rfl⟩
                    · rw [g2.1]; exact ⟨rfl, rfl, rfl, rfl, rfl⟩
                    · rw [g2.2.1]; exact ⟨rfl, rfl⟩
                    · rw [g2.2.2.1]; exact ⟨rfl, rfl, rfl⟩
                    · exact g2.2.2.2 5 (by decide)
                    · rw [g2.2.2.1]; exact ⟨rfl, rfl⟩
                    · rw [g3]; unfold mvL; rw [if_neg (by omega)]
                    · rw [g2.1]; rfl
                    · refine Or.inr ⟨so2, m2, q1, q2, by rw [g2.2.2.1]; exact q3, by rw [g2.2.2.1]; exact q4, q5, q6, fun k hk => ?_⟩
                      rw [uB_at, g3]
                      unfold mvL
                      by_cases q : b ≤ k ∧ k < b + n
                      · rw [pk_cpy_in q.1 q.2, if_pos (by omega), p7 _ (by omega)]
                        rw [show 60 * i + (a + (k - b)) = 60 * i + a + (60 * j + k - (60 * j + b)) by omega]
                      · rw [pk_cpy_out (by omega), if_neg (by omega)]; exact q7 k hk
                  rw [ifLe (by omega) (by omega)]
                  by_cases c4 : b ≤ a
                  · obtain ⟨S', g1, g2, g3⟩ := r_pour (S := uI (uI s 1 0) 0 0) hi hj (a := a) (b := b) (n := n) (by omega) (by omega) false (fun q => by cases q) (fun _ => c4)
                    rw [if_pos c4, g1]
                    exact fin S' g2 g3
                  · obtain ⟨S', g1, g2, g3⟩ := r_pour (S := uI (uI s 1 0) 0 0) hi hj (a := a) (b := b) (n := n) (by omega) (by omega) true (fun _ => by omega) (fun q => by cases q)
                    rw [if_neg c4, g1]
                    exact fin S' g2 g3
                · refine leaf 4 _ _ ?_ (by rw [e6]; rfl)
                  rcases h6 with h6 | ⟨b, hb1, hb2, rfl⟩
                  · rw [if_pos h6]
                  · have gb : ¬ nI b < 0 := nI_pos (by omega)
                    have l1 : (nI b).toInt64 = lN b := nI_l (by omega)
                    rw [if_neg gb, nI_l (by omega), nI_l (by omega), nI_l (by omega), lN_add, if_neg (fun q => by have := (lN_lt (by omega) (by omega)).mp q; omega), l1, nI_l (by omega), lN_add, if_neg (fun q => by have := (pk_lLE (by omega) (by omega)).mp q; omega)]
              · refine leaf 4 _ _ ?_ (by rw [e5]; rfl)
                rcases h5 with h5 | ⟨a, hb1, hb2, rfl⟩
                · rw [if_pos h5]
                · have ga : ¬ nI a < 0 := nI_pos (by omega)
                  rw [if_neg ga]
                  by_cases c3 : a3 < 0
                  · rw [if_pos c3]
                  · rw [if_neg c3, nI_l (by omega), nI_l hb1, nI_l hn, lN_add, if_pos ((pk_lLT (by omega) (by omega)).mpr hb2)]
            · refine leaf 6 _ _ ?_ ?_
              · rw [if_neg c2]
              · rw [if_neg c2]
          · refine leaf 11 _ _ ?_ ?_
            · rw [if_neg c1]
            · rw [if_neg c1]
    · refine leaf 1 _ _ ?_ ?_
      · rw [if_neg b1, if_neg b2]
        rcases h with h | ⟨h3, h4⟩
        · rw [if_pos h]
        · rw [if_neg h3, if_neg (show ¬ a2 < (4 : Int32) from fun q => by
            rw [Int32.lt_iff_toInt_lt] at q
            rw [Int32.le_iff_toInt_le] at h4
            omega)]
      · rw [e2, e4]; rfl
  · refine leaf 1 _ _ ?_ ?_
    · rcases h with h | ⟨h3, h4⟩
      · rw [if_pos h]
      · rw [if_neg h3, if_pos h4]
    · rw [e2]; rfl
theorem q_pour {T1 T2 : RS} (a0 a1 a2 a3 a4 : Int32) (h1 : ∀ i, i < 4 → a0 = nI i → trR s i T1) (h2 : ∀ i, i < 4 → a2 = nI i → trR s i T2) : pouR s s0 T2 a2 (pX12_pour s a0 a1 a2 a3 a4) (pX11_pour s0 T1 T2 a0 a1 a2 a3 a4) := q_pour2 a0 a1 a2 a3 a4 h1 h2 rfl
theorem q_pourE {T : RS} (a0 a1 a2 a3 a4 : Int32) (h1 : ∀ i, i < 4 → a0 = nI i → trR s i T) (h2 : ∀ i, i < 4 → a2 = nI i → trR s i T) : pouR s s0 T a2 (pX12_pour s a0 a1 a2 a3 a4) (pX11_pourE s0 T a0 a1 a2 a3 a4) := q_pour2 a0 a1 a2 a3 a4 h1 h2 rfl
end Q
