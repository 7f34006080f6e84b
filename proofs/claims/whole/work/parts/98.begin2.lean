/-! TEXTS: all tokens of a text, in the class -/
theorem tkS_bl {b : Nat → Nat} {e p : Nat} (h : p < e) (hb : isBl (b p) = true) : tkS b e p = tkS b e (p + 1) := by
  unfold tkS
  obtain ⟨m, hm⟩ := Nat.exists_eq_succ_of_ne_zero (show e - p ≠ 0 by omega)
  rw [hm, show e - (p + 1) = m by omega]
  show (if isBl (b p) = true then scn (fun i => isBl (b i)) m (p + 1) else p) = _
  rw [if_pos hb]
theorem tkS_nb {b : Nat → Nat} {e p : Nat} (h : p < e) (hb : isBl (b p) = false) : tkS b e p = p := by
  unfold tkS
  obtain ⟨m, hm⟩ := Nat.exists_eq_succ_of_ne_zero (show e - p ≠ 0 by omega)
  rw [hm]
  show (if isBl (b p) = true then scn (fun i => isBl (b i)) m (p + 1) else p) = _
  rw [hb, if_neg (by decide)]
theorem tkS_e (b : Nat → Nat) (e : Nat) : tkS b e e = e := by
  unfold tkS
  rw [Nat.sub_self]; rfl
def bgS (q q' : RS) : Prop := (∀ j, j ≠ 9 → q'.1 j = q.1 j) ∧ q'.2.1 = q.2.1 ∧ (∀ n, n ≠ 6 → n ≠ 7 → q'.2.2.1 n = q.2.2.1 n) ∧ (∀ n, n ≠ 8 → q'.2.2.2 n = q.2.2.2 n)
theorem bgS_rf (q : RS) : bgS q q := ⟨fun _ _ => rfl, rfl, fun _ _ _ => rfl, fun _ _ => rfl⟩
theorem bgS_tr {a b c : RS} (h : bgS a b) (k : bgS b c) : bgS a c := ⟨fun j hj => (k.1 j hj).trans (h.1 j hj), k.2.1.trans h.2.1, fun n h6 h7 => (k.2.2.1 n h6 h7).trans (h.2.2.1 n h6 h7), fun n h8 => (k.2.2.2 n h8).trans (h.2.2.2 n h8)⟩
section V
variable {q : RS} {b : Nat → Nat} {e : Nat} {tb : Nat → Int64}
theorem x_beginL : ∀ (N p j : Nat) (q : RS), p ≤ e → e - p < N → txX b e q → q.2.2.2 1 = tb → q.1 9 = nI j → j ≤ p → tkS b e p = tsq b e j → (∀ i, i < j → tokX tb b e i (tsq b e i) q) → ∃ q' T, a_loop (fun (y : Int32 × RS) => X8_begin_b39 y.1 y.2) N (nI p, q) = some q' ∧ bgS q q' ∧ q'.1 9 = nI T ∧ T ≤ e ∧ tsq b e T = e ∧ ∀ i, i < T → tokX tb b e i (tsq b e i) q'
  | 0, p, j, q, _, h, _, _, _, _, _, _ => absurd h (Nat.not_lt_zero _)
  | N + 1, p, j, q, hp, hN, ht, htb, hj, hjp, hts, htk => by
    have he := ht.2.1
    by_cases c : p = e
    · refine ⟨q, j, lp_e ?_, bgS_rf q, hj, by omega, ?_, htk⟩
      · dsimp only [X8_begin_b39]
        rw [ht.1, if_pos (nI_le (by omega) (by omega))]
      · rw [← hts, c, tkS_e]
    · have hpe : p < e := by omega
      have hb := (ht.2.2 p hpe).1
      have b0 : (fun (y : Int32 × RS) => X8_begin_b39 y.1 y.2) (nI p, q) = if isBl (b p) = true then some (.inl (nI (p + 1), q)) else (pX8_addToken q (nI p)).bind fun x9 => some (.inl (x9.1, uI x9.2 9 ((x9.2.1 9) + (1 : Int32)))) := by
        dsimp only [X8_begin_b39, X8_begin_j79]
        rw [ht.1, if_neg (nI_ge hpe (by omega)), hj, show (900 : Int32) = nI 900 from rfl, if_neg (nI_ge (by omega) (by omega)), g_inT (by omega) (by omega), g_inT (by omega) (by omega), nI_clamp (by omega), (ht.2.2 p hpe).2, thn_eq, nI_1]
        unfold isBl
        by_cases c1 : b p = 10
        · rw [if_pos ((sB_is hb).1.mpr c1), decide_eq_true (Or.inl c1), if_pos rfl]
        · rw [if_neg (fun h => c1 ((sB_is hb).1.mp h))]
          by_cases c2 : b p = 32
          · rw [if_pos ((sB_is hb).2.1.mpr c2), decide_eq_true (Or.inr c2), if_pos rfl]
          · rw [if_neg (fun h => c2 ((sB_is hb).2.1.mp h)), decide_eq_false (by omega), if_neg (by decide)]
            simp only [thn_eq]
      cases cb : isBl (b p) with
      | true =>
        rw [cb, if_pos rfl] at b0
        rw [lp_s b0]
        exact x_beginL N (p + 1) j q (by omega) (by omega) ht htb hj (by omega) (by rw [← tkS_bl hpe cb, hts]) htk
      | false =>
        have est : tsq b e j = p := by rw [← hts, tkS_nb hpe cb]
        obtain ⟨q1, f1, f2, f3⟩ := x_addToken ht hj (show j < 900 by omega) hpe
        rw [cb, if_neg (by decide), f1, ob_s] at b0
        rw [lp_s b0]
        have k9 : q1.1 9 + (1 : Int32) = nI (j + 1) := by rw [f3.1, hj, nI_1]
        rw [show (nI (tkB b e p), q1).2 = q1 from rfl, show (nI (tkB b e p), q1).1 = nI (tkB b e p) from rfl, k9]
        have s1 : bgS q (uI q1 9 (nI (j + 1))) := ⟨fun i hi => (if_neg hi).trans (congrFun f3.1 i), f3.2.1, f3.2.2.1, f3.2.2.2.1⟩
        have hB := tkB_le (b := b) (show p ≤ e by omega)
        have hG := tkB_gt (b := b) hpe
        have tt : txX b e (uI q1 9 (nI (j + 1))) := ⟨(s1.1 5 (by decide)).trans ht.1, he, fun i hi => ⟨(ht.2.2 i hi).1, by rw [s1.2.2.1 0 (by decide) (by decide)]; exact (ht.2.2 i hi).2⟩⟩
        obtain ⟨q', T, g1, g2, g3, g4, g5, g6⟩ := x_beginL N (tkB b e p) (j + 1) (uI q1 9 (nI (j + 1))) hB.2 (by omega) tt ((s1.2.2.2 1 (by decide)).trans htb) rfl (by omega) (by show _ = tkS b e (tkB b e (tsq b e j)); rw [est]) (fun i hi => by
          by_cases ci : i = j
          · rw [ci, est]; rw [htb] at f2; exact f2
          · obtain ⟨a1, a2, a3, a4, a5⟩ := htk i (by omega)
            have m := f3.2.2.2.2 i ci
            exact ⟨a1, m.1.trans a2, m.2.1.trans a3, fun h => m.2.2.trans (a4 h), fun h h' => m.2.2.trans (a5 h h')⟩)
        exact ⟨q', T, g1, bgS_tr s1 g2, g3, g4, g5, g6⟩
/-- the class's tokens of the text -/
def lxC (tb : Nat → Int64) (b : Nat → Nat) (e T : Nat) (q : RS) : Prop := q.2.2.2 1 = tb ∧ q.1 9 = nI T ∧ T ≤ 900 ∧ e ≤ 900 ∧ tsq b e T = e ∧ (∀ i, i < T → tokX tb b e i (tsq b e i) q) ∧ q.2.2.1 6 T = nI 33 ∧ q.2.2.1 7 T = nI e
theorem x_begin {n : Nat} (hn : q.1 2 = nI n) (h9 : n ≤ 900) (he : e ≤ n) (hb : ∀ i, i < e → b i < 256 ∧ q.2.2.1 0 i = sB (b i)) : ∃ q' T, pX8_begin q (nI e) = some q' ∧ lxC (q.2.2.2 1) b e T q' ∧ q'.1 10 = nI 0 ∧ q'.1 2 = nI 0 ∧ q'.1 3 = nI 0 ∧ q'.1 4 = m1I ∧ q'.2.2.1 0 = q.2.2.1 0 := by
  unfold pX8_begin
  have em : pJ9_min_7cf53 (nI e) (q.1 2) = some (nI e) := by
    unfold pJ9_min_7cf53
    rw [hn, if_neg (nI_nlt (by omega) (by omega))]
  rw [em, ob_s]
  simp only [thn_eq]
  have t0 : txX b e (uI (uI (uI (uI (uI (uI q 5 (nI e)) 2 0) 3 0) 4 (-1)) 9 0) 10 0) := ⟨rfl, by omega, hb⟩
  have k9 : (uI (uI (uI (uI (uI (uI q 5 (nI e)) 2 0) 3 0) 4 (-1)) 9 0) 10 0).1 9 = nI 0 := rfl
  have k10 : (uI (uI (uI (uI (uI (uI q 5 (nI e)) 2 0) 3 0) 4 (-1)) 9 0) 10 0).1 10 = nI 0 := rfl
  have k2 : (uI (uI (uI (uI (uI (uI q 5 (nI e)) 2 0) 3 0) 4 (-1)) 9 0) 10 0).1 2 = nI 0 := rfl
  have k3 : (uI (uI (uI (uI (uI (uI q 5 (nI e)) 2 0) 3 0) 4 (-1)) 9 0) 10 0).1 3 = nI 0 := rfl
  have k4 : (uI (uI (uI (uI (uI (uI q 5 (nI e)) 2 0) 3 0) 4 (-1)) 9 0) 10 0).1 4 = m1I := rfl
  have k5 : (uI (uI (uI (uI (uI (uI q 5 (nI e)) 2 0) 3 0) 4 (-1)) 9 0) 10 0).1 5 = nI e := rfl
  have kr : (uI (uI (uI (uI (uI (uI q 5 (nI e)) 2 0) 3 0) 4 (-1)) 9 0) 10 0).2.2 = q.2.2 := rfl
  generalize uI (uI (uI (uI (uI (uI q 5 (nI e)) 2 0) 3 0) 4 (-1)) 9 0) 10 0 = q7 at *
  obtain ⟨q', T, f1, f2, f3, f4, f5, f6⟩ := x_beginL (b := b) (e := e) (tb := q.2.2.2 1) FU 0 0 q7 (by omega) (by show _ < 100000; omega) t0 (by rw [kr]) k9 (Nat.le_refl _) rfl (fun i h => absurd h (Nat.not_lt_zero _))
  have f1' : a_loop (fun (y : Int32 × RS) => X8_begin_b39 y.1 y.2) FU ((0 : Int32), q7) = some q' := f1
  rw [f1', ob_s]
  unfold X8_begin_j104
  rw [f3, g_inT (by omega) (by omega), nI_clamp (by omega), thn_eq]
  have m9 : (uA q' 6 (upd (q'.2.2.1 6) T (33 : Int32))).1 9 = nI T := f3
  have m5 : (uA q' 6 (upd (q'.2.2.1 6) T (33 : Int32))).1 5 = nI e := (f2.1 5 (by decide)).trans k5
  rw [m9, m5, g_inT (by omega) (by omega), nI_clamp (by omega), thn_eq]
  have u7 : (uA q' 6 (upd (q'.2.2.1 6) T (33 : Int32))).2.2.1 7 = q'.2.2.1 7 := uA_ne _ _ (by decide)
  rw [u7]
  have r6 : (uA (uA q' 6 (upd (q'.2.2.1 6) T (33 : Int32))) 7 (upd (q'.2.2.1 7) T (nI e))).2.2.1 6 = upd (q'.2.2.1 6) T (nI 33) := (uA_ne _ _ (by decide)).trans (uA_at _ _ _)
  have r7 : (uA (uA q' 6 (upd (q'.2.2.1 6) T (33 : Int32))) 7 (upd (q'.2.2.1 7) T (nI e))).2.2.1 7 = upd (q'.2.2.1 7) T (nI e) := uA_at _ _ _
  refine ⟨_, T, rfl, ⟨?_, f3, by omega, by omega, f5, fun i hi => ?_, ?_, ?_⟩, (f2.1 10 (by decide)).trans k10, (f2.1 2 (by decide)).trans k2, (f2.1 3 (by decide)).trans k3, (f2.1 4 (by decide)).trans k4, ?_⟩
  · exact (f2.2.2.2 1 (by decide)).trans (by rw [kr])
  · obtain ⟨a1, a2, a3, a4, a5⟩ := f6 i hi
    refine ⟨a1, ?_, ?_, a4, a5⟩
    · rw [r6, upd_ne _ _ (by omega)]; exact a2
    · rw [r7, upd_ne _ _ (by omega)]; exact a3
  · rw [r6, upd_at]
  · rw [r7, upd_at]
  · exact (uA_ne _ _ (by decide)).trans ((uA_ne _ _ (by decide)).trans ((f2.2.2.1 0 (by decide) (by decide)).trans (by rw [kr])))
end V
