/-! FEED and FAULT -/
theorem uI_uI (s : RS) (k : Nat) (v w : Int32) : uI (uI s k v) k w = uI s k w := by
  have : va_up (va_up s.1 k v) k w = va_up s.1 k w := by
    funext j
    unfold va_up
    by_cases c : j = k
    · rw [if_pos c, if_pos c]
    · rw [if_neg c, if_neg c, if_neg c]
  show (va_up (va_up s.1 k v) k w, s.2) = _
  rw [this]; rfl
def bt (a : Int32) (k : Nat) : Int32 := ((a >>> (nI k &&& 31)).toInt8.toInt32).toInt8.toInt32
def by4 (f : Nat → Int32) (n : Nat) (a : Int32) : Nat → Int32 := upd (upd (upd (upd f n (bt a 24)) (n + 1) (bt a 16)) (n + 2) (bt a 8)) (n + 3) (bt a 0)
theorem by4_eq {f g : Nat → Int32} {n : Nat} (h : ∀ i, i < n → f i = g i) (a : Int32) : ∀ i, i < n + 4 → by4 f n a i = by4 g n a i := by
  intro i hi
  unfold by4
  by_cases c3 : i = n + 3
  · rw [c3, upd_at, upd_at]
  · rw [upd_ne _ _ c3, upd_ne _ _ c3]
    by_cases c2 : i = n + 2
    · rw [c2, upd_at, upd_at]
    · rw [upd_ne _ _ c2, upd_ne _ _ c2]
      by_cases c1 : i = n + 1
      · rw [c1, upd_at, upd_at]
      · rw [upd_ne _ _ c1, upd_ne _ _ c1]
        by_cases c0 : i = n
        · rw [c0, upd_at, upd_at]
        · rw [upd_ne _ _ c0, upd_ne _ _ c0]; exact h i (by omega)
theorem lp_4 {σ ξ : Type} {body : σ → Option (σ ⊕ ξ)} {N : Nat} {s0 s1 s2 s3 s4 : σ} {x : ξ} (h0 : body s0 = some (.inl s1)) (h1 : body s1 = some (.inl s2)) (h2 : body s2 = some (.inl s3)) (h3 : body s3 = some (.inl s4)) (h4 : body s4 = some (.inr x)) : a_loop body (N + 1 + 1 + 1 + 1 + 1) s0 = some x := by
  rw [lp_s h0, lp_s h1, lp_s h2, lp_s h3, lp_e h4]
theorem FU_5 : FU = 99995 + 1 + 1 + 1 + 1 + 1 := rfl
section V
variable {s s0 s1 : RS}
theorem r_byte {n k : Nat} {a : Int32} (hn : s.1 8 = nI n) (h : n < 900) (hk : k < 4) : X12_lay_b2 a (nI k) s = some (.inl (nI k + m1I, uI (uA s 3 (upd (s.2.2.1 3) n (bt a (8 * k)))) 8 (nI (n + 1)))) := by
  unfold X12_lay_b2
  rw [if_neg (nI_pos (by omega)), hn, g_inT h (by omega), nI_clamp (by omega), show (8 : Int32) = nI 8 from rfl, pk_mul, thn_eq, thn_eq, show (uA s 3 (upd (s.2.2.1 3) n (((a >>> (nI (8 * k) &&& 31)).toInt8.toInt32).toInt8.toInt32))).1 8 = nI n from hn, nI_1, thn_eq]; rfl
theorem x_byte {n k : Nat} {a : Int32} (hn : s1.1 2 = nI n) (h : n < 900) (hk : k ≤ 24) : X8_addBytes_b3 a (nI k) s1 = some (.inl (nI k + (-8), uI (uA s1 0 (upd (s1.2.2.1 0) n (bt a k))) 2 (nI (n + 1)))) := by
  unfold X8_addBytes_b3
  rw [if_neg (nI_pos (by omega)), hn, show (900 : Int32) = nI 900 from rfl, if_neg (nI_ge h (by omega)), g_inT h (by omega), nI_clamp (by omega), thn_eq, thn_eq, show (uA s1 0 (upd (s1.2.2.1 0) n (((a >>> (nI k &&& 31)).toInt8.toInt32).toInt8.toInt32))).1 2 = nI n from hn, nI_1, thn_eq]; rfl
theorem ui_ua (s : RS) (k n : Nat) (v : Int32) (f : Nat → Int32) : uA (uI s k v) n f = uI (uA s n f) k v := rfl
theorem r_lay {n : Nat} (a : Int32) (hn : s.1 8 = nI n) (h : n + 4 ≤ 900) : pX12_lay s a = some (uI (uA s 3 (by4 (s.2.2.1 3) n a)) 8 (nI (n + 4))) := by
  unfold pX12_lay
  have l1 := r_byte (s := s) (k := 3) (a := a) hn (by omega) (by omega)
  have l2 := r_byte (s := uI (uA s 3 (upd (s.2.2.1 3) n (bt a 24))) 8 (nI (n + 1))) (n := n + 1) (k := 2) (a := a) rfl (by omega) (by omega)
  have l3 := r_byte (s := uI (uA s 3 (upd (upd (s.2.2.1 3) n (bt a 24)) (n + 1) (bt a 16))) 8 (nI (n + 2))) (n := n + 2) (k := 1) (a := a) rfl (by omega) (by omega)
  have l4 := r_byte (s := uI (uA s 3 (upd (upd (upd (s.2.2.1 3) n (bt a 24)) (n + 1) (bt a 16)) (n + 2) (bt a 8))) 8 (nI (n + 3))) (n := n + 3) (k := 0) (a := a) rfl (by omega) (by omega)
  rw [show (uI (uA s 3 (upd (s.2.2.1 3) n (bt a 24))) 8 (nI (n + 1))).2.2.1 3 = upd (s.2.2.1 3) n (bt a 24) from uA_at _ _ _, ui_ua, uA_uA, uI_uI] at l2
  rw [show (uI (uA s 3 (upd (upd (s.2.2.1 3) n (bt a 24)) (n + 1) (bt a 16))) 8 (nI (n + 2))).2.2.1 3 = upd (upd (s.2.2.1 3) n (bt a 24)) (n + 1) (bt a 16) from uA_at _ _ _, ui_ua, uA_uA, uI_uI] at l3
  rw [show (uI (uA s 3 (upd (upd (upd (s.2.2.1 3) n (bt a 24)) (n + 1) (bt a 16)) (n + 2) (bt a 8))) 8 (nI (n + 3))).2.2.1 3 = upd (upd (upd (s.2.2.1 3) n (bt a 24)) (n + 1) (bt a 16)) (n + 2) (bt a 8) from uA_at _ _ _, ui_ua, uA_uA, uI_uI] at l4
  refine bd ?_ rfl
  rw [FU_5]
  exact lp_4 (body := fun (q : Int32 × RS) => X12_lay_b2 a q.1 q.2) l1 l2 l3 l4 (if_pos (show nI 0 + m1I < (0 : Int32) by decide))
theorem x_addB {n : Nat} (a : Int32) (hn : s1.1 2 = nI n) (h : n + 4 ≤ 900) : pX8_addBytes s1 a = some (uI (uA s1 0 (by4 (s1.2.2.1 0) n a)) 2 (nI (n + 4))) := by
  unfold pX8_addBytes
  have l1 := x_byte (s1 := s1) (k := 24) (a := a) hn (by omega) (by omega)
  have l2 := x_byte (s1 := uI (uA s1 0 (upd (s1.2.2.1 0) n (bt a 24))) 2 (nI (n + 1))) (n := n + 1) (k := 16) (a := a) rfl (by omega) (by omega)
  have l3 := x_byte (s1 := uI (uA s1 0 (upd (upd (s1.2.2.1 0) n (bt a 24)) (n + 1) (bt a 16))) 2 (nI (n + 2))) (n := n + 2) (k := 8) (a := a) rfl (by omega) (by omega)
  have l4 := x_byte (s1 := uI (uA s1 0 (upd (upd (upd (s1.2.2.1 0) n (bt a 24)) (n + 1) (bt a 16)) (n + 2) (bt a 8))) 2 (nI (n + 3))) (n := n + 3) (k := 0) (a := a) rfl (by omega) (by omega)
  rw [show (uI (uA s1 0 (upd (s1.2.2.1 0) n (bt a 24))) 2 (nI (n + 1))).2.2.1 0 = upd (s1.2.2.1 0) n (bt a 24) from uA_at _ _ _, ui_ua, uA_uA, uI_uI] at l2
  rw [show (uI (uA s1 0 (upd (upd (s1.2.2.1 0) n (bt a 24)) (n + 1) (bt a 16))) 2 (nI (n + 2))).2.2.1 0 = upd (upd (s1.2.2.1 0) n (bt a 24)) (n + 1) (bt a 16) from uA_at _ _ _, ui_ua, uA_uA, uI_uI] at l3
  rw [show (uI (uA s1 0 (upd (upd (upd (s1.2.2.1 0) n (bt a 24)) (n + 1) (bt a 16)) (n + 2) (bt a 8))) 2 (nI (n + 3))).2.2.1 0 = upd (upd (upd (s1.2.2.1 0) n (bt a 24)) (n + 1) (bt a 16)) (n + 2) (bt a 8) from uA_at _ _ _, ui_ua, uA_uA, uI_uI] at l4
  refine bd ?_ rfl
  rw [FU_5]
  exact lp_4 (body := fun (q : Int32 × RS) => X8_addBytes_b3 a q.1 q.2) l1 l2 l3 l4 (if_pos (show nI 0 + (-8) < (0 : Int32) by decide))
theorem r_lay2 {n : Nat} (f : Nat → Int32) (a : Int32) (h : n + 4 ≤ 900) : pX12_lay (uI (uA s 3 f) 8 (nI n)) a = some (uI (uA s 3 (by4 f n a)) 8 (nI (n + 4))) := by
  rw [r_lay a rfl h, show (uI (uA s 3 f) 8 (nI n)).2.2.1 3 = f from uA_at _ _ _, ui_ua, uA_uA, uI_uI]
theorem x_addB2 {n : Nat} (f : Nat → Int32) (a : Int32) (h : n + 4 ≤ 900) : pX8_addBytes (uI (uA s1 0 f) 2 (nI n)) a = some (uI (uA s1 0 (by4 f n a)) 2 (nI (n + 4))) := by
  rw [x_addB a rfl h, show (uI (uA s1 0 f) 2 (nI n)).2.2.1 0 = f from uA_at _ _ _, ui_ua, uA_uA, uI_uI]
/-- the TAPE: n bytes are laid, and the faults -/
def isBy (x : Int32) : Prop := ∃ y : Int8, x = y.toInt32
theorem by4_b {f : Nat → Int32} {n : Nat} (h : ∀ i, i < n → isBy (f i)) (a : Int32) : ∀ i, i < n + 4 → isBy (by4 f n a i) := by
  intro i hi
  unfold by4
  by_cases c3 : i = n + 3
  · rw [c3, upd_at]; exact ⟨_, rfl⟩
  · rw [upd_ne _ _ c3]
    by_cases c2 : i = n + 2
    · rw [c2, upd_at]; exact ⟨_, rfl⟩
    · rw [upd_ne _ _ c2]
      by_cases c1 : i = n + 1
      · rw [c1, upd_at]; exact ⟨_, rfl⟩
      · rw [upd_ne _ _ c1]
        by_cases c0 : i = n
        · rw [c0, upd_at]; exact ⟨_, rfl⟩
        · rw [upd_ne _ _ c0]; exact h i (by omega)
def tpR (n : Nat) (s s1 : RS) : Prop := s.1 8 = nI n ∧ s1.1 2 = nI n ∧ n ≤ 900 ∧ (∀ i, i < n → s.2.2.1 3 i = s1.2.2.1 0 i) ∧ ∀ i, i < n → isBy (s.2.2.1 3 i)
theorem q_feed {n : Nat} (h : tpR n s s1) (a0 a1 a2 a3 a4 : Int32) : (pX12_feed s a0 a1 a2 a3 a4 = some (m1I, uI s 1 (0 : Int32)) ∧ pX11_feed s0 s1 a0 a1 a2 a3 a4 = some (m1I, s1)) ∨ ∃ f g, pX12_feed s a0 a1 a2 a3 a4 = some (nI (n + 20), uI (uA (uI s 1 (0 : Int32)) 3 f) 8 (nI (n + 20))) ∧ pX11_feed s0 s1 a0 a1 a2 a3 a4 = some (nI (n + 20), uI (uA s1 0 g) 2 (nI (n + 20))) ∧ n + 20 ≤ 900 ∧ (∀ i, i < n + 20 → f i = g i) ∧ ∀ i, i < n + 20 → isBy (f i) := by
  obtain ⟨h1, h2, h3, h4, h5⟩ := h
  unfold pX12_feed pX11_feed pX8_hasRoom
  rw [thn_eq, show (uI s 1 (0 : Int32)).1 8 = nI n from h1, h2, show (900 : Int32) = nI 900 from rfl, sbI h3, show (20 : Int32) = nI 20 from rfl, nI_add, ifLe (by omega) (by omega), ifLt (by omega) (by omega)]
  by_cases c : n + 20 ≤ 900
  · right
    rw [if_pos c, if_neg (by omega), ob_s, if_pos rfl]
    rw [r_lay (s := uI s 1 (0 : Int32)) a0 h1 (by omega), ob_s, x_addB a0 h2 (by omega), ob_s]
    rw [r_lay2 _ a1 (by omega), ob_s, x_addB2 _ a1 (by omega), ob_s]
    rw [r_lay2 _ a2 (by omega), ob_s, x_addB2 _ a2 (by omega), ob_s]
    rw [r_lay2 _ a3 (by omega), ob_s, x_addB2 _ a3 (by omega), ob_s]
    rw [r_lay2 _ a4 (by omega), ob_s, x_addB2 _ a4 (by omega), ob_s]
    exact ⟨_, _, rfl, rfl, c, by4_eq (by4_eq (by4_eq (by4_eq (by4_eq h4 a0) a1) a2) a3) a4, by4_b (by4_b (by4_b (by4_b (by4_b h5 a0) a1) a2) a3) a4⟩
  · left
    rw [if_neg c, if_pos (by omega), ob_s, if_neg (by decide)]
    exact ⟨rfl, rfl⟩
theorem q_fault (h1 : s.1 10 = s1.1 3) (h2 : s.1 11 = s1.1 4) (a0 : Int32) : ∃ a, pX12_fault s a0 = some (a, uI s 1 (0 : Int32)) ∧ pX11_fault s0 s1 a0 = some a := by
  unfold pX12_fault pX11_fault
  rw [thn_eq, show (uI s 1 (0 : Int32)).1 10 = s1.1 3 from h1, show (uI s 1 (0 : Int32)).1 11 = s1.1 4 from h2]
  by_cases c : a0 = 0
  · rw [if_pos c, if_pos c]; exact ⟨_, rfl, rfl⟩
  · rw [if_neg c, if_neg c]
    by_cases d : a0 = (1 : Int32)
    · rw [if_pos d, if_pos d]; exact ⟨_, rfl, rfl⟩
    · rw [if_neg d, if_neg d]; exact ⟨_, rfl, rfl⟩
end V
