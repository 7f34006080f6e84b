/-! MARK and BACK -/
theorem uA_self (s : RS) (n : Nat) : uA s n (s.2.2.1 n) = s := by
  have : va_up s.2.2.1 n (s.2.2.1 n) = s.2.2.1 := by
    funext m
    unfold va_up
    by_cases c : m = n
    · rw [if_pos c, c]
    · rw [if_neg c]
  unfold uA
  rw [this]
theorem uB_self (s : RS) (n : Nat) : uB s n (s.2.2.2 n) = s := by
  have : va_up s.2.2.2 n (s.2.2.2 n) = s.2.2.2 := by
    funext m
    unfold va_up
    by_cases c : m = n
    · rw [if_pos c, c]
    · rw [if_neg c]
  unfold uB
  rw [this]
theorem uB_uB (s : RS) (n : Nat) (f g : Nat → Int64) : uB (uB s n f) n g = uB s n g := by
  have : va_up (uB s n f).2.2.2 n g = va_up s.2.2.2 n g := by
    funext m
    unfold va_up
    by_cases c : m = n
    · rw [if_pos c, if_pos c]
    · rw [if_neg c, if_neg c]
      show va_up s.2.2.2 n f m = _
      unfold va_up
      rw [if_neg c]
  show (s.1, s.2.1, s.2.2.1, va_up (uB s n f).2.2.2 n g) = _
  rw [this]; rfl
def blC {α : Type} (w i j : Nat) (f : Nat → α) (k x : Nat) : α := if w * j ≤ x ∧ x < w * j + k then f (w * i + (x - w * j)) else f x
theorem blC_0 {α : Type} (w i j : Nat) (f : Nat → α) : blC w i j f 0 = f := by
  funext x
  unfold blC
  rw [if_neg (by omega)]
theorem blC_at {α : Type} {w i j : Nat} (f : Nat → α) {k : Nat} (hw : w * i + w ≤ w * j ∨ w * j + w ≤ w * i) (hk : k < w) : blC w i j f k (w * i + k) = f (w * i + k) := by
  unfold blC
  rw [if_neg (by omega)]
theorem blC_sI {w i j : Nat} (f : Nat → Int32) (k : Nat) : upd (blC w i j f k) (w * j + k) (f (w * i + k)) = blC w i j f (k + 1) := by
  funext x
  unfold blC
  by_cases e : x = w * j + k
  · rw [e, upd_at, if_pos (by omega), show w * j + k - w * j = k by omega]
  · rw [upd_ne _ _ e]
    by_cases c : w * j ≤ x ∧ x < w * j + k
    · rw [if_pos c, if_pos (by omega)]
    · rw [if_neg c, if_neg (by omega)]
theorem blC_sL {w i j : Nat} (f : Nat → Int64) (k : Nat) : vp_updL (blC w i j f k) (w * j + k) (f (w * i + k)) = blC w i j f (k + 1) := by
  funext x
  unfold blC
  by_cases e : x = w * j + k
  · rw [e, updL_at, if_pos (by omega), show w * j + k - w * j = k by omega]
  · rw [updL_ne _ _ e]
    by_cases c : w * j ≤ x ∧ x < w * j + k
    · rw [if_pos c, if_pos (by omega)]
    · rw [if_neg c, if_neg (by omega)]
section V
variable {s s0 s1 s2 s3 s4 : RS}
theorem r_copy {i j : Nat} (hi : i < 5) (hj : j < 5) (hij : i ≠ j) : pX12_copy s (nI i) (nI j) = some (uB (uA s 4 (blC 360 i j (s.2.2.1 4) 360)) 5 (blC 20 i j (s.2.2.2 5) 20)) := by
  unfold pX12_copy
  have l1 : a_loop (fun (q : Int32 × RS) => X12_copy_b2 (nI i) (nI j) q.1 q.2) FU ((0 : Int32), s) = some (uA s 4 (blC 360 i j (s.2.2.1 4) 360)) := by
    have := lp_f (body := fun (q : Int32 × RS) => X12_copy_b2 (nI i) (nI j) q.1 q.2) (fun k => (nI k, uA s 4 (blC 360 i j (s.2.2.1 4) k))) (x := uA s 4 (blC 360 i j (s.2.2.1 4) 360)) 360 (by decide) (fun k hk => ?_) ?_
    · rw [blC_0, uA_self] at this; exact this
    · dsimp only [X12_copy_b2]
      rw [show (360 : Int32) = nI 360 from rfl, if_neg (nI_ge hk (by omega)), pk_mul, pk_mul, nI_add, nI_add, g_inT (by omega) (by omega), g_inT (by omega) (by omega), nI_clamp (by omega), nI_clamp (by omega), uA_at, blC_at _ (by omega) hk, blC_sI, uA_uA, thn_eq, thn_eq, nI_1]
    · dsimp only [X12_copy_b2]
      rw [if_pos (by decide)]
  rw [l1, ob_s]
  have e5 : (uA s 4 (blC 360 i j (s.2.2.1 4) 360)).2.2.2 5 = s.2.2.2 5 := rfl
  rw [← e5]
  generalize uA s 4 (blC 360 i j (s.2.2.1 4) 360) = t
  have l2 : a_loop (fun (q : Int32 × RS) => X12_copy_b41 (nI i) (nI j) q.1 q.2) FU ((0 : Int32), t) = some (uB t 5 (blC 20 i j (t.2.2.2 5) 20)) := by
    have := lp_f (body := fun (q : Int32 × RS) => X12_copy_b41 (nI i) (nI j) q.1 q.2) (fun k => (nI k, uB t 5 (blC 20 i j (t.2.2.2 5) k))) (x := uB t 5 (blC 20 i j (t.2.2.2 5) 20)) 20 (by decide) (fun k hk => ?_) ?_
    · rw [blC_0, uB_self] at this; exact this
    · dsimp only [X12_copy_b41]
      rw [show (20 : Int32) = nI 20 from rfl, if_neg (nI_ge hk (by omega)), pk_mul, pk_mul, nI_add, nI_add, g_inT (by omega) (by omega), g_inT (by omega) (by omega), nI_clamp (by omega), nI_clamp (by omega), uB_at, blC_at _ (by omega) hk, blC_sL, uB_uB, thn_eq, thn_eq, nI_1]
    · dsimp only [X12_copy_b41]
      rw [if_pos (by decide)]
  rw [l2, ob_s]
/-- block i lies on block j now -/
def cpS (s s' : RS) (i j : Nat) : Prop := (s'.1 8 = s.1 8 ∧ s'.1 10 = s.1 10 ∧ s'.1 11 = s.1 11 ∧ s'.1 43 = s.1 43) ∧ s'.2.1 = s.2.1 ∧ (∀ n, n ≠ 4 → s'.2.2.1 n = s.2.2.1 n) ∧ s'.2.2.1 4 = blC 360 i j (s.2.2.1 4) 360 ∧ (∀ n, n ≠ 5 → s'.2.2.2 n = s.2.2.2 n) ∧ s'.2.2.2 5 = blC 20 i j (s.2.2.2 5) 20
/-- what copyFrom makes of the object q out of s -/
def cfC (q s q' : RS) : Prop := q'.1 4 = s.1 4 ∧ (∀ i, i < 4 → q'.2.2.1 2 i = s.2.2.1 2 i) ∧ (∀ i, i < 16 → q'.2.2.1 3 i = s.2.2.1 3 i)
theorem cp_44 {γ : Type} (e : Option γ) : g_cp (0 : Int32) (0 : Int32) (4 : Int32) 4 4 e = e := by
  unfold g_cp
  rw [if_neg (by decide)]
theorem cp_16 {γ : Type} (e : Option γ) : g_cp (0 : Int32) (0 : Int32) (16 : Int32) 16 16 e = e := by
  unfold g_cp
  rw [if_neg (by decide)]
theorem x_copyFrom : ∃ q', pX7_copyFrom s0 s1 s2 s3 = some q' ∧ cfC s0 s1 q' := by
  unfold pX7_copyFrom
  simp only [thn_eq, cp_44, cp_16]
  refine ⟨_, rfl, rfl, fun i hi => ?_, fun i hi => ?_⟩
  · show va_cpy (s1.2.2.1 2) (s0.2.2.1 2) 0 0 4 i = _
    unfold va_cpy
    rw [if_pos (by omega), show 0 + (i - 0) = i by omega]
  · show va_cpy (s1.2.2.1 3) (s0.2.2.1 3) 0 0 16 i = _
    unfold va_cpy
    rw [if_pos (by omega), show 0 + (i - 0) = i by omega]
theorem x_copyFromN : ∃ q', pX7_copyFromN s0 s1 s2 = some q' ∧ cfC s0 s1 q' := by
  unfold pX7_copyFromN
  simp only [thn_eq, cp_44, cp_16]
  refine ⟨_, rfl, rfl, fun i hi => ?_, fun i hi => ?_⟩
  · show va_cpy (s1.2.2.1 2) (s0.2.2.1 2) 0 0 4 i = _
    unfold va_cpy
    rw [if_pos (by omega), show 0 + (i - 0) = i by omega]
  · show va_cpy (s1.2.2.1 3) (s0.2.2.1 3) 0 0 16 i = _
    unfold va_cpy
    rw [if_pos (by omega), show 0 + (i - 0) = i by omega]
theorem q_markE (h : s.1 22 = nI 3) (h0 : s0.1 10 = nI 3) : qq s s0 (pX12_mark s) (pX11_markE s0) := by
  unfold pX12_mark pX11_markE
  rw [thn_eq, thn_eq, if_pos (show (uI (uI s 1 (0 : Int32)) 0 (0 : Int32)).1 22 = (3 : Int32) from h), h0, if_neg (by decide)]
  exact ⟨_, _, rfl, rq_3 _ _ _ _, rfl⟩
theorem r_mark {m : Nat} (hm : m < 3) (h : s.1 22 = nI m) : ∃ s', pX12_mark s = some (nI (m + 1), s') ∧ cpS s s' 0 (m + 1) ∧ s'.1 22 = nI (m + 1) ∧ s'.1 0 = nI 0 := by
  unfold pX12_mark
  rw [thn_eq, thn_eq, show (uI (uI s 1 (0 : Int32)) 0 (0 : Int32)).1 22 = nI m from h, if_neg (show ¬ nI m = (3 : Int32) from fun q => by have := (nI_eq (b := 3) (by omega) (by omega)).mp q; omega), nI_1, thn_eq]
  have e : (uI (uI (uI s 1 (0 : Int32)) 0 (0 : Int32)) 22 (nI (m + 1))).1 22 = nI (m + 1) := rfl
  rw [e, show (0 : Int32) = nI 0 from rfl, r_copy (by omega) (by omega) (by omega), ob_s]
  exact ⟨_, rfl, ⟨⟨rfl, rfl, rfl, rfl⟩, rfl, fun n hn => by show va_up _ 4 _ n = _; unfold va_up; rw [if_neg hn]; rfl, rfl, fun n hn => by show va_up _ 5 _ n = _; unfold va_up; rw [if_neg hn]; rfl, rfl⟩, rfl, rfl⟩
theorem x_mark {m : Nat} (hm : m < 3) (h : s0.1 10 = nI m) : (∃ q', pX11_markT s0 s1 s2 s3 s4 = some (nI (m + 1), uI (uI s0 10 (nI (m + 1))) 11 (nI 0), q') ∧ cfC s4 s1 q') ∧ (∃ q', pX11_markTN s0 s1 s2 s3 = some (nI (m + 1), uI (uI s0 10 (nI (m + 1))) 11 (nI 0), q') ∧ cfC s3 s1 q') ∧ pX11_markh s0 = some (nI m) := by
  have hh : pX11_markh s0 = some (nI m) := by
    unfold pX11_markh
    rw [h, if_pos (show nI m < (3 : Int32) from nI_lt (b := 3) hm (by omega))]
  refine ⟨?_, ?_, hh⟩
  · obtain ⟨q', e1, e2⟩ := x_copyFrom (s0 := s4) (s1 := s1) (s2 := s2) (s3 := s3)
    refine ⟨q', ?_, e2⟩
    unfold pX11_markT pX11_markt
    rw [hh, ob_s, g_inT hm (by omega), e1, ob_s, thn_eq, h, nI_1]; rfl
  · obtain ⟨q', e1, e2⟩ := x_copyFromN (s0 := s3) (s1 := s1) (s2 := s2)
    refine ⟨q', ?_, e2⟩
    unfold pX11_markTN pX11_marktN
    rw [hh, ob_s, g_inT hm (by omega), e1, ob_s, thn_eq, h, nI_1]; rfl
theorem q_backE (h : s.1 22 = nI 0) (h0 : s0.1 10 = nI 0) : qq s s0 (pX12_back s) (pX11_backE s0) := by
  unfold pX12_back pX11_backE
  rw [thn_eq, thn_eq, if_pos (show (uI (uI s 1 (0 : Int32)) 0 (0 : Int32)).1 22 = (0 : Int32) from h), h0, if_neg (by decide)]
  exact ⟨_, _, rfl, rq_3 _ _ _ _, rfl⟩
theorem r_bck {m : Nat} (hm : m < 3) (h : s.1 22 = nI (m + 1)) : ∃ s', pX12_back s = some (nI m, s') ∧ cpS s s' (m + 1) 0 ∧ s'.1 22 = nI m ∧ s'.1 0 = nI 0 := by
  unfold pX12_back
  rw [thn_eq, thn_eq, show (uI (uI s 1 (0 : Int32)) 0 (0 : Int32)).1 22 = nI (m + 1) from h, if_neg (show ¬ nI (m + 1) = (0 : Int32) from fun q => by have := (nI_eq (b := 0) (by omega) (by omega)).mp q; omega)]
  rw [show pX12_copy (uI (uI s 1 (0 : Int32)) 0 (0 : Int32)) (nI (m + 1)) (0 : Int32) = pX12_copy (uI (uI s 1 (0 : Int32)) 0 (0 : Int32)) (nI (m + 1)) (nI 0) from rfl, r_copy (by omega) (by omega) (by omega), ob_s, thn_eq]
  have e : ∀ f g, (uB (uA (uI (uI s 1 (0 : Int32)) 0 (0 : Int32)) 4 f) 5 g).1 22 - (1 : Int32) = nI m := fun f g => by
    show s.1 22 - (1 : Int32) = _
    rw [h]; exact (sbI (b := 1) (by omega)).trans (by rw [Nat.add_sub_cancel])
  rw [e]
  exact ⟨_, rfl, ⟨⟨rfl, rfl, rfl, rfl⟩, rfl, fun n hn => by show va_up _ 4 _ n = _; unfold va_up; rw [if_neg hn]; rfl, rfl, fun n hn => by show va_up _ 5 _ n = _; unfold va_up; rw [if_neg hn]; rfl, rfl⟩, rfl, rfl⟩
theorem x_bck {m : Nat} (hm : m < 3) (h : s0.1 10 = nI (m + 1)) : (∃ q', pX11_backT s0 s1 s2 s3 s4 = some (nI m, uI (uI s0 10 (nI m)) 11 (nI 0), q') ∧ cfC s1 s2 q') ∧ (∃ q', pX11_backTN s0 s1 s2 s3 = some (nI m, uI (uI s0 10 (nI m)) 11 (nI 0), q') ∧ cfC s1 s2 q') ∧ pX11_backh s0 s1 = some (nI m, uI s0 10 (nI m)) := by
  have hh : pX11_backh s0 s1 = some (nI m, uI s0 10 (nI m)) := by
    unfold pX11_backh
    rw [h, if_pos (show (0 : Int32) < nI (m + 1) from nI_lt (a := 0) (by omega) (by omega)), thn_eq, show nI (m + 1) - (1 : Int32) = nI m from (sbI (b := 1) (by omega)).trans (by rw [Nat.add_sub_cancel])]; rfl
  refine ⟨?_, ?_, hh⟩
  · obtain ⟨q', e1, e2⟩ := x_copyFrom (s0 := s1) (s1 := s2) (s2 := s3) (s3 := s4)
    refine ⟨q', ?_, e2⟩
    unfold pX11_backT pX11_backt
    rw [hh, ob_s, g_inT hm (by omega), e1, ob_s]; rfl
  · obtain ⟨q', e1, e2⟩ := x_copyFromN (s0 := s1) (s1 := s2) (s2 := s3)
    refine ⟨q', ?_, e2⟩
    unfold pX11_backTN pX11_backtN
    rw [hh, ob_s, g_inT hm (by omega), e1, ob_s]; rfl
end V
