/-! TEXTS: is all well; what stands behind MAKE, OUT, PICK, both ways -/
/-- of the reference only the token, the fault and the scratch row w have changed -/
def rsW (w : Nat) (s s' : RS) : Prop := (∀ j, (j < 12 ∨ 18 < j) → s'.1 j = s.1 j) ∧ (∀ j, j ≠ 19 → s'.2.1 j = s.2.1 j) ∧ (∀ n, n ≠ 4 → s'.2.2.1 n = s.2.2.1 n) ∧ s'.2.2.2 = s.2.2.2 ∧ ∀ x, (x < w ∨ w + 7 ≤ x) → s'.2.2.1 4 x = s.2.2.1 4 x
theorem rsW_tr {w : Nat} {a b c : RS} (h : rsW w a b) (k : rsW w b c) : rsW w a c := ⟨fun j hj => (k.1 j hj).trans (h.1 j hj), fun j hj => (k.2.1 j hj).trans (h.2.1 j hj), fun n hn => (k.2.2.1 n hn).trans (h.2.2.1 n hn), k.2.2.2.1.trans h.2.2.2.1, fun x hx => (k.2.2.2.2 x hx).trans (h.2.2.2.2 x hx)⟩
theorem rsW_rf (w : Nat) (s : RS) : rsW w s s := ⟨fun _ _ => rfl, fun _ _ => rfl, fun _ _ => rfl, rfl, fun _ _ => rfl⟩
theorem rsW_nx {w : Nat} {s s' : RS} (h : nxS s s') : rsW w s s' := ⟨fun j hj => h.1 j (by omega), h.2.1, fun n _ => by rw [h.2.2], by rw [h.2.2], fun x _ => by rw [h.2.2]⟩
theorem rsW_flt {w f st : Nat} (s : RS) : rsW w s (fltR f st s) := ⟨fun j hj => (if_neg (show ¬ j = 13 by omega)).trans (if_neg (show ¬ j = 12 by omega)), fun _ _ => rfl, fun _ _ => rfl, rfl, fun _ _ => rfl⟩
theorem rsW_4 {w x : Nat} (s : RS) (v : Int32) (h : w ≤ x ∧ x < w + 7) : rsW w s (uA s 4 (upd (s.2.2.1 4) x v)) := ⟨fun _ _ => rfl, fun _ _ => rfl, fun n hn => uA_ne _ _ hn, rfl, fun y hy => by rw [uA_at, upd_ne _ _ (by omega)]⟩
section V
variable {s q r lg s0 : RS} {b : Nat → Nat} {e T j f st : Nat} {tb : Nat → Int64} {nm nmI : Nat → Nat} {B : Nat → Nat}
theorem r_well (h : s.1 12 = nI 0) : pX12_isWell s = some (true, uI (uI s 10 (nI 0)) 11 m1I) := by
  unfold pX12_isWell X12_isWell_j24
  simp only [thn_eq]
  rw [show (uI s 10 (s.1 12)).1 12 = nI 0 from h, if_pos (show nI 0 = (0 : Int32) from rfl), h, show (uI (uI s 10 (nI 0)) 11 (-1 : Int32)).1 12 = nI 0 from h, if_pos (show nI 0 = (0 : Int32) from rfl)]; rfl
theorem r_ill (h : badR f s) (h13 : s.1 13 = nI st) : pX12_isWell s = some (false, uI (uI (uI s 10 (nI f)) 11 (nI st)) 0 (10 : Int32)) := by
  have hb := bad_eq h
  unfold pX12_isWell X12_isWell_j24 pX12_no
  simp only [thn_eq]
  rw [if_neg (show ¬ (uI s 10 (s.1 12)).1 12 = 0 from hb), if_neg (show ¬ (uI (uI s 10 (s.1 12)) 11 ((uI s 10 (s.1 12)).1 13)).1 12 = 0 from hb), ob_s, if_neg Bool.false_ne_true, h.1, show (uI s 10 (nI f)).1 13 = nI st from h13]
theorem prR_4 (h : prR tb b e T j s q) (g : Nat → Int32) : prR tb b e T j (uA s 4 g) q := ⟨h.1, ⟨h.2.1.1, h.2.1.2.1, fun i hi => h.2.1.2.2 i hi⟩, h.2.2.1, h.2.2.2⟩
theorem nx_12 {s s' : RS} (h : nxS s s') (h12 : s.1 12 = nI 0) : s'.1 12 = nI 0 := (h.1 12 (by omega)).trans h12
/-- a wanted word k: the reference asks for it by the Bool t -/
theorem must_t (h : prR tb b e T j s q) (h12 : s.1 12 = nI 0) {k : Nat} (hk : k ≤ 32) : (∃ s', pX12_must s (decide (kJ tb b e j = k)) = some s' ∧ pX8_pass q (nI k) = some (true, uI q 10 (nI (j + 1))) ∧ prR tb b e T (j + 1) s' (uI q 10 (nI (j + 1))) ∧ nxS s s') ∨ ∃ f, 1 ≤ f ∧ f ≤ 7 ∧ pX12_must s (decide (kJ tb b e j = k)) = some (fltR f (tsq b e j) s) ∧ pX8_pass q (nI k) = some (false, fltX f (tsq b e j) q) := by
  rcases p_must h h12 hk with ⟨c, s', f1, f2, f3, f4⟩ | ⟨c, f1, f2⟩
  · left; rw [decide_eq_true c]; exact ⟨s', f1, f2, f3, f4⟩
  · right
    rw [decide_eq_false c]
    by_cases c32 : kJ tb b e j = 32
    · rw [if_pos c32] at f1 f2; exact ⟨1, by omega, by omega, f1, f2⟩
    · rw [if_neg c32] at f1 f2; exact ⟨2, by omega, by omega, f1, f2⟩
end V
