/-! SAIL, SAILED, AGREED -/
theorem uA_uA (s : RS) (n : Nat) (f g : Nat → Int32) : uA (uA s n f) n g = uA s n g := by
  have : (fun m => if m = n then g else (uA s n f).2.2.1 m) = fun m => if m = n then g else s.2.2.1 m := by
    funext m
    by_cases c : m = n
    · rw [if_pos c, if_pos c]
    · rw [if_neg c, if_neg c]; exact uA_ne _ _ c
  show (s.1, s.2.1, (fun m => if m = n then g else (uA s n f).2.2.1 m), s.2.2.2) = _
  rw [this]; rfl
theorem isIn_9 (a0 : Int32) : (∃ t, t < 10000 ∧ a0 = nI t ∧ pX12_isIn a0.toInt64 (0 : Int64) (9999 : Int64) = some true ∧ ¬ a0 < 0 ∧ a0 ≤ (9999 : Int32)) ∨ (pX12_isIn a0.toInt64 (0 : Int64) (9999 : Int64) = some false ∧ (a0 < 0 ∨ (¬ a0 < 0 ∧ ¬ a0 ≤ (9999 : Int32)))) := by
  have e : (9999 : Int64) = (nI 10000 - (1 : Int32)).toInt64 := by decide
  rw [e]
  rcases isInM a0 (m := 10000) (by omega) with ⟨t, h1, h2, h3, h4, h5, h6⟩ | ⟨h1, h2⟩
  · refine Or.inl ⟨t, h1, h2, h3, h4, ?_⟩
    rw [h2]; exact nI_le (b := 9999) (by omega) (by omega)
  · refine Or.inr ⟨h1, ?_⟩
    rcases h2 with h | ⟨g1, g2, g3⟩
    · exact Or.inl h
    · refine Or.inr ⟨g1, fun q => ?_⟩
      have q1 := Int32.le_iff_toInt_le.mp g2
      have q2 := Int32.le_iff_toInt_le.mp q
      have q3 : (nI 10000).toInt = 10000 := by decide
      have q4 : (9999 : Int32).toInt = 9999 := by decide
      omega
/-- what a voyage leaves as it was -/
def rsS (s s' : RS) : Prop := (s'.1 8 = s.1 8 ∧ s'.1 10 = s.1 10 ∧ s'.1 11 = s.1 11 ∧ s'.1 22 = s.1 22) ∧ (s'.2.1 2 = s.2.1 2 ∧ s'.2.1 3 = s.2.1 3) ∧ (s'.2.2.1 0 = s.2.2.1 0 ∧ s'.2.2.1 1 = s.2.2.1 1 ∧ s'.2.2.1 3 = s.2.2.1 3 ∧ ∀ j, (j < 114 ∨ 118 ≤ j) → s'.2.2.1 4 j = s.2.2.1 4 j) ∧ s'.2.2.2 = s.2.2.2
section V
variable {s q r lg s0 s1 s4 : RS} {B : Nat → Nat} {v : VS} {c : Nat → Int32} {H : Nat → Nat} {R T b0 b2 b3 : Nat} {f4 : Nat → Option Nat}
theorem q_sail (hB : blk (s.2.2.1 4) 0 B) (hw : wfB B) (hR : bkR B r) (hH : hsR (s.2.2.1 4) H) (hN : hsC s1 H) (hW : hsW B H) (hL : lgR B lg (s.2.2.1 4) R T) (h135 : s.2.2.1 4 135 = nI 1) (a0 : Int32) : (∃ s', pX12_sail s a0 = some (m1I, s') ∧ rsame s s' ∧ pX11_sail s0 s1 r lg s4 b0 b2 b3 f4 a0 = some (m1I, uI s0 11 (s'.1 0), s1, s4, f4)) ∨ ∃ n s' f g H' q', pX12_sail s a0 = some (nI n, s') ∧ pX11_sail s0 s1 r lg s4 b0 b2 b3 f4 a0 = some (nI n, uI (uI (uA s0 8 f) 9 (nI 1)) 11 (nI 0), uA s1 2 g, q', va_up (va_up f4 7 (some b2)) 8 (some b3)) ∧ (∀ i, i < 5 → f i = s'.2.2.1 14 i) ∧ (∀ i, i < 4 → g i = nI (H' i)) ∧ hsR (s'.2.2.1 4) H' ∧ hsW B H' ∧ s'.1 43 = nI 1 ∧ s'.1 0 = nI 0 ∧ rsS s s' := by
  unfold pX12_sail pX11_sail
  rcases isIn_9 a0 with ⟨t, h1, h2, h3, h4, h5⟩ | ⟨h1, h2⟩
  · right
    rw [thn_eq, thn_eq, h3, ob_s, if_pos rfl, if_neg h4, if_pos h5, show (135 : Int32) = nI 135 from rfl, g_inT (by omega) (by omega), nI_clamp (by omega), if_neg (show ¬ (uI (uI s 1 (0 : Int32)) 0 (0 : Int32)).2.2.1 4 135 = (0 : Int32) by show ¬ s.2.2.1 4 135 = (0 : Int32); rw [h135]; decide)]
    subst h2
    obtain ⟨v', s', q', f1, f2, f3, f5, f6, f7⟩ := run_ok (s := uI (uI s 1 (0 : Int32)) 0 (0 : Int32)) (q := s4) (nw := s1) hB hw hR hH hN hW hL (x := t) (by omega)
    rw [f1, f2, ob_s, ob_s]
    have gcp : ∀ {γ : Type} (e : Option γ), g_cp (0 : Int32) (0 : Int32) (4 : Int32) 4 4 e = e := fun e => by
      unfold g_cp
      rw [if_neg (by decide)]
    rw [gcp]
    have ei : ∀ {γ : Type} (k : Nat) (e : Option γ), k < 5 → g_in (nI k) 5 e = e := fun k e hk => g_inT hk (by omega)
    rw [show (g_in (0 : Int32) 5 : Option (Int32 × RS) → _) = g_in (nI 0) 5 from rfl]
    simp (disch := omega) only [thn_eq, li, g_inT, nI_clamp, uA_at, uA_uA, uA_1]
    unfold pX11_tell
    rw [thn_eq, ob_s]
    refine ⟨v'.2.1.1, uI (uA s' 14 (upd (upd (upd (upd (upd (s'.2.2.1 14) 0 (s'.1 39)) 1 (s'.1 40)) 2 (s'.1 41)) 3 (s'.1 42)) 4 (s'.1 35))) 43 (nI 1), upd (upd (upd (upd (upd (s0.2.2.1 8) 0 (q'.1 2)) 1 (q'.1 3)) 2 (q'.1 4)) 3 (q'.1 5)) 4 (q'.1 6), va_cpy (q'.2.2.1 0) (s1.2.2.1 2) 0 0 4, v'.1, q', ?_, ?_, ?_, ?_, ?_, ?_, ?_, ?_, ?_⟩
    · exact congrArg some (Prod.ext f3.2.1.1 rfl)
    · rw [f5.2.1.1]; rfl
    · intro i hi
      have a1 := f3.2.1.2.1
      have a2 := f3.2.1.2.2.1
      have a3 := f3.2.1.2.2.2.1
      have a4 := f3.2.1.2.2.2.2
      have a5 := f3.2.2.2.1
      have c1 := f5.2.1.2.1
      have c2 := f5.2.1.2.2.1
      have c3 := f5.2.1.2.2.2.1
      have c4 := f5.2.1.2.2.2.2
      have c5 := f5.2.2.2.1
      rw [show (uI (uA s' 14 (upd (upd (upd (upd (upd (s'.2.2.1 14) 0 (s'.1 39)) 1 (s'.1 40)) 2 (s'.1 41)) 3 (s'.1 42)) 4 (s'.1 35))) 43 (nI 1)).2.2.1 14 = upd (upd (upd (upd (upd (s'.2.2.1 14) 0 (s'.1 39)) 1 (s'.1 40)) 2 (s'.1 41)) 3 (s'.1 42)) 4 (s'.1 35) from uA_at _ _ _, a1, a2, a3, a4, a5, c1, c2, c3, c4, c5]
      rcases (show i = 0 ∨ i = 1 ∨ i = 2 ∨ i = 3 ∨ i = 4 by omega) with rfl | rfl | rfl | rfl | rfl <;> rfl
    · intro i hi
      show va_cpy (q'.2.2.1 0) (s1.2.2.1 2) 0 0 4 i = _
      unfold va_cpy
      rw [if_pos (by omega), show 0 + (i - 0) = i by omega]
      exact f5.1 i hi
    · exact fun i hi => f3.1 i hi
    · exact f7.1
    · rfl
    · exact (f6.1 0 (by omega)).trans rfl
    · exact ⟨⟨f6.1 8 (by omega), f6.1 10 (by omega), f6.1 11 (by omega), f6.1 22 (by omega)⟩, ⟨congrFun f6.2.1 2, congrFun f6.2.1 3⟩, ⟨f6.2.2.2.1 0 (by omega), f6.2.2.2.1 1 (by omega), f6.2.2.2.1 3 (by omega), fun j hj => f6.2.2.2.2 j hj⟩, f6.2.2.1⟩
  · left
    unfold X11_sail_j11 pX12_refuse pX11_refuse
    rw [thn_eq, thn_eq, h1, ob_s, if_neg (by decide), thn_eq, thn_eq, ob_s, ob_s]
    refine ⟨_, rfl, rq_3 _ _ _ _, ?_⟩
    rcases h2 with h | ⟨g1, g2⟩
    · rw [if_pos h]; rfl
    · rw [if_neg g1, if_neg g2]; rfl
theorem q_sailN (h135 : s.2.2.1 4 135 = nI 0) (a0 : Int32) : qq s s0 (pX12_sail s a0) (pX11_sailN s0 s1 r lg a0) := by
  unfold pX12_sail pX11_sailN
  rcases isIn_9 a0 with ⟨t, h1, h2, h3, h4, h5⟩ | ⟨h1, h2⟩
  · rw [thn_eq, thn_eq, h3, ob_s, if_pos rfl, if_neg h4, if_pos h5, show (135 : Int32) = nI 135 from rfl, g_inT (by omega) (by omega), nI_clamp (by omega), if_pos (show (uI (uI s 1 (0 : Int32)) 0 (0 : Int32)).2.2.1 4 135 = (0 : Int32) from h135)]
    exact ⟨_, _, rfl, rq_3 _ _ _ _, rfl⟩
  · unfold X11_sailN_j11 pX12_refuse pX11_refuse
    rw [thn_eq, thn_eq, h1, ob_s, if_neg (by decide), thn_eq, thn_eq, ob_s, ob_s]
    refine ⟨_, _, rfl, rq_3 _ _ _ _, ?_⟩
    rcases h2 with h | ⟨g1, g2⟩
    · rw [if_pos h]; rfl
    · rw [if_neg g1, if_neg g2]; rfl
theorem q_sailed (h43 : s.1 43 = s0.1 9) (h14 : s.1 43 ≠ 0 → ∀ i, i < 5 → s0.2.2.1 8 i = s.2.2.1 14 i) (a0 : Int32) : qq s s0 (pX12_sailed s a0) (pX11_sailed s0 a0) := by
  unfold pX12_sailed pX11_sailed
  have e : (4 : Int64) = (nI 5 - (1 : Int32)).toInt64 := by decide
  rw [e, thn_eq, thn_eq]
  rcases isInM a0 (m := 5) (by omega) with ⟨t, h1, h2, h3, h4, h5, h6⟩ | ⟨h1, h2⟩
  · rw [h3, ob_s, if_pos rfl, if_neg h4, h2, if_pos (show nI t < (5 : Int32) from nI_lt (b := 5) h1 (by omega))]
    by_cases c : s.1 43 = 0
    · rw [if_pos (show (uI (uI s 1 (0 : Int32)) 0 (0 : Int32)).1 43 = 0 from c), if_pos (show s0.1 9 = 0 by rw [← h43]; exact c)]
      exact ⟨_, _, rfl, rq_3 _ _ _ _, rfl⟩
    · rw [if_neg (show ¬ (uI (uI s 1 (0 : Int32)) 0 (0 : Int32)).1 43 = 0 from c), if_neg (show ¬ s0.1 9 = 0 by rw [← h43]; exact c), g_inT h1 (by omega), g_inT h1 (by omega), nI_clamp (by omega), h14 c t h1]
      exact ⟨_, _, rfl, rq_2 _ _ _, rfl⟩
  · unfold X11_sailed_j13 pX12_refuse pX11_refuse
    rw [h1, ob_s, if_neg (by decide), thn_eq, thn_eq, ob_s, ob_s]
    refine ⟨_, _, rfl, rq_3 _ _ _ _, ?_⟩
    rcases h2 with h | ⟨g1, g2, g3⟩
    · rw [if_pos h]; rfl
    · rw [if_neg g1, if_neg (show ¬ a0 < (5 : Int32) from fun q => by
        have q1 := Int32.le_iff_toInt_le.mp g2
        have q2 := Int32.lt_iff_toInt_lt.mp q
        have q3 : (nI 5).toInt = 5 := by decide
        have q4 : (5 : Int32).toInt = 5 := by decide
        omega)]; rfl
end V
