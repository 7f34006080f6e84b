/-! LISTS -/
def ips (key : Nat → Nat) (g : Nat → Nat) (kp : Nat) : Nat → Nat
  | 0 => 0
  | n + 1 => if key (g n) ≤ kp then n + 1 else ips key g kp n
theorem ips_le (key g : Nat → Nat) (kp : Nat) : ∀ n, ips key g kp n ≤ n
  | 0 => Nat.le_refl _
  | n + 1 => by
    unfold ips
    have := ips_le key g kp n
    split <;> omega
def insG (g : Nat → Nat) (m pos p : Nat) : Nat → Nat := fun i => if i < pos then g i else if i = pos then p else if i ≤ m then g (i - 1) else g i
/-- the LIST of those below k: how many, which -/
def lsG (B : Nat → Nat) (t : Nat) : Nat → Nat × (Nat → Nat)
  | 0 => (0, fun _ => 0)
  | k + 1 => if thr B t k then ((lsG B t k).1 + 1, insG (lsG B t k).2 (lsG B t k).1 (ips (fun p => tol B t p 3) (lsG B t k).2 (tol B t k 3) (lsG B t k).1) k) else lsG B t k
theorem lsG_ok (B : Nat → Nat) (t : Nat) : ∀ k, (lsG B t k).1 ≤ k ∧ ∀ i, i < (lsG B t k).1 → (lsG B t k).2 i < k ∧ thr B t ((lsG B t k).2 i) = true
  | 0 => ⟨Nat.le_refl _, fun i h => absurd h (Nat.not_lt_zero _)⟩
  | k + 1 => by
    obtain ⟨h1, h2⟩ := lsG_ok B t k
    unfold lsG
    by_cases e : thr B t k = true
    · rw [if_pos e]
      refine ⟨by dsimp only; omega, fun i hi => ?_⟩
      dsimp only at hi ⊢
      have hp := ips_le (fun p => tol B t p 3) (lsG B t k).2 (tol B t k 3) (lsG B t k).1
      unfold insG
      by_cases q : i < ips (fun p => tol B t p 3) (lsG B t k).2 (tol B t k 3) (lsG B t k).1
      · rw [if_pos q]
        have := h2 i (by omega)
        exact ⟨by omega, this.2⟩
      · rw [if_neg q]
        by_cases q2 : i = ips (fun p => tol B t p 3) (lsG B t k).2 (tol B t k 3) (lsG B t k).1
        · rw [if_pos q2]; exact ⟨by omega, e⟩
        · rw [if_neg q2, if_pos (by omega)]
          have := h2 (i - 1) (by omega)
          exact ⟨by omega, this.2⟩
    · rw [if_neg e]
      exact ⟨by omega, fun i hi => ⟨by have := (h2 i hi).1; omega, (h2 i hi).2⟩⟩
theorem thr_put {B : Nat → Nat} {t p : Nat} (h : thr B t p = true) : B (2 + p) = 0 ∧ t.testBit p = true := by
  unfold thr at h
  simp only [Bool.and_eq_true, beq_iff_eq] at h
  exact ⟨h.1.2, h.1.1⟩
/-- the same but for the row n -/
def sx (n : Nat) (s s' : RS) : Prop := s'.1 = s.1 ∧ s'.2.1 = s.2.1 ∧ s'.2.2.2 = s.2.2.2 ∧ ∀ k, k ≠ n → s'.2.2.1 k = s.2.2.1 k
theorem sx_rf (n : Nat) (s : RS) : sx n s s := ⟨rfl, rfl, rfl, fun _ _ => rfl⟩
theorem sx_tr {n : Nat} {a b c : RS} (h : sx n a b) (h2 : sx n b c) : sx n a c := ⟨h2.1.trans h.1, h2.2.1.trans h.2.1, h2.2.2.1.trans h.2.2.1, fun k hk => (h2.2.2.2 k hk).trans (h.2.2.2 k hk)⟩
theorem sx_uA (n : Nat) (s : RS) (f : Nat → Int32) : sx n s (uA s n f) := ⟨rfl, rfl, rfl, fun k hk => by show va_up s.2.2.1 n f k = _; exact if_neg hk⟩
theorem uA_at (s : RS) (n : Nat) (f : Nat → Int32) : (uA s n f).2.2.1 n = f := if_pos rfl
theorem uA_ne (s : RS) {n k : Nat} (f : Nat → Int32) (h : k ≠ n) : (uA s n f).2.2.1 k = s.2.2.1 k := if_neg h
theorem upd_at (f : Nat → Int32) (k : Nat) (x : Int32) : upd f k x k = x := if_pos rfl
theorem upd_ne (f : Nat → Int32) {k j : Nat} (x : Int32) (h : j ≠ k) : upd f k x j = f j := if_neg h
section R
variable {B : Nat → Nat}
theorem r_lsI_6 {s : RS} (hB : blk (s.2.2.1 4) 0 B) (hw : wfB B) {t p kp m : Nat} (ht : t < 65536) (hkp : kp < 65536) (v3 v4 : Int32) (hm : m < 16) (g : Nat → Nat) (hg : ∀ i, i < m → s.2.2.1 6 i = nI (g i) ∧ g i < B 0) (hb : ∀ j, B j < 65536) : ∃ s', a_loop (fun (q : Int32 × RS) => X12_listOf_7_b42 (nI t) v3 v4 (nI kp) q.1 q.2) FU (nI m, s) = some (nI (ips (fun p => tol B t p 3) g kp m), s') ∧ sx 6 s s' ∧ (∀ i, i < ips (fun p => tol B t p 3) g kp m → s'.2.2.1 6 i = nI (g i)) ∧ ∀ i, ips (fun p => tol B t p 3) g kp m < i → i ≤ m → s'.2.2.1 6 i = nI (g (i - 1)) := by
  have h16 := hw.1
  have tl : ∀ p, tol B t p 3 < 65536 := fun p => by unfold tol; split <;> exact hb _
  obtain ⟨x, h1, s', h2, h3, h4, h5⟩ := lp_m (body := fun (q : Int32 × RS) => X12_listOf_7_b42 (nI t) v3 v4 (nI kp) q.1 q.2) (I := fun j q => ∃ s', q = (nI j, s') ∧ j ≤ m ∧ sx 6 s s' ∧ (∀ i, i < j → s'.2.2.1 6 i = nI (g i)) ∧ (∀ i, j < i → i ≤ m → s'.2.2.1 6 i = nI (g (i - 1))) ∧ ips (fun p => tol B t p 3) g kp j = ips (fun p => tol B t p 3) g kp m) (P := fun x => ∃ s', x = (nI (ips (fun p => tol B t p 3) g kp m), s') ∧ sx 6 s s' ∧ (∀ i, i < ips (fun p => tol B t p 3) g kp m → s'.2.2.1 6 i = nI (g i)) ∧ ∀ i, ips (fun p => tol B t p 3) g kp m < i → i ≤ m → s'.2.2.1 6 i = nI (g (i - 1))) (fun j q hi => by
    obtain ⟨s', rfl, hj, hs, ha, hc, he⟩ := hi
    dsimp only [X12_listOf_7_b42]
    cases j with
    | zero =>
      refine Or.inr ⟨_, ⟨s', by rw [← he], hs, fun i hi => ha i (by rw [← he] at hi; exact hi), fun i h1 h2 => hc i (by rw [← he] at h1; exact h1) h2⟩, ?_⟩
      rw [show (0 : Int32) = nI 0 from rfl, if_pos (nI_le (a := 0) (b := 0) (Nat.le_refl _) (by omega))]; rfl
    | succ j =>
      have e1 : nI (j + 1) - (1 : Int32) = nI j := nI_pred j
      have e2 : nI (j + 1) + (-1) = nI j := pk_m1 j
      have hB' : blk (s'.2.2.1 4) 0 B := by rw [hs.2.2.2 4 (by decide)]; exact hB
      rw [e1, e2, if_neg (nI_nle (by omega) (by omega)), nI_clamp (by omega), nI_clamp (by omega), g_inT (by omega) (by omega), ha j (by omega), show (3 : Int32) = nI 3 from rfl, r_toldBy hB' hw ht (hg j (by omega)).2 (Or.inr rfl), ob_s, ifLe (by have := tl (g j); omega) (by omega)]
      have hps : ips (fun p => tol B t p 3) g kp (j + 1) = if tol B t (g j) 3 ≤ kp then j + 1 else ips (fun p => tol B t p 3) g kp j := rfl
      by_cases e : tol B t (g j) 3 ≤ kp
      · rw [if_pos e] at hps
        rw [hps] at he
        refine Or.inr ⟨_, ⟨s', by rw [← he], hs, fun i hi => ha i (by rw [← he] at hi; exact hi), fun i h1 h2 => hc i (by rw [← he] at h1; exact h1) h2⟩, ?_⟩
        rw [if_pos e]
      · rw [if_neg e] at hps
        rw [hps] at he
        refine Or.inl ⟨j, (nI j, uA s' 6 (upd (s'.2.2.1 6) (j + 1) (nI (g j)))), by omega, ⟨_, rfl, by omega, sx_tr hs (sx_uA _ _ _), fun i hi => ?_, fun i h1 h2 => ?_, he⟩, ?_⟩
        · rw [uA_at, upd_ne _ _ (by omega)]; exact ha i (by omega)
        · rw [uA_at]
          by_cases q : i = j + 1
          · subst q; rw [upd_at]; rfl
          · rw [upd_ne _ _ q]; exact hc i (by omega) h2
        · rw [if_neg e, g_inT (by omega) (by omega), g_inT (by omega) (by omega), thn_eq, thn_eq]) FU m (nI m, s) (by show m < 100000; omega) ⟨s, rfl, Nat.le_refl _, sx_rf _ _, fun i hi => (hg i hi).1, fun i h1 h2 => absurd h2 (by omega), rfl⟩
  exact ⟨s', by rw [h1, h2], h3, h4, h5⟩
theorem r_listOf_6 {s : RS} (hB : blk (s.2.2.1 4) 0 B) (hw : wfB B) {t : Nat} (ht : t < 65536) : ∃ s', pX12_listOf_7 s (nI t) = some (nI (lsG B t (B 0)).1, s') ∧ sx 6 s s' ∧ ∀ i, i < (lsG B t (B 0)).1 → s'.2.2.1 6 i = nI ((lsG B t (B 0)).2 i) := by
  have h16 := hw.1
  have hb := hB.2
  have tl : ∀ p, tol B t p 3 < 65536 := fun p => by unfold tol; split <;> exact hb _
  obtain ⟨x, h1, s', h2, h3, h4⟩ := lp_m (body := fun (q : Int32 × Int32 × RS) => X12_listOf_7_b5 (nI t) q.1 q.2.1 q.2.2) (I := fun m q => ∃ k s', m = B 0 - k ∧ k ≤ B 0 ∧ q = (nI (lsG B t k).1, nI k, s') ∧ sx 6 s s' ∧ ∀ i, i < (lsG B t k).1 → s'.2.2.1 6 i = nI ((lsG B t k).2 i)) (P := fun x => ∃ s', x = (nI (lsG B t (B 0)).1, s') ∧ sx 6 s s' ∧ ∀ i, i < (lsG B t (B 0)).1 → s'.2.2.1 6 i = nI ((lsG B t (B 0)).2 i)) (fun m q hi => by
    obtain ⟨k, s', rfl, hk, rfl, hs, hr⟩ := hi
    have hB' : blk (s'.2.2.1 4) 0 B := by rw [hs.2.2.2 4 (by decide)]; exact hB
    have hb0 : s'.2.2.1 4 (0 : Int32).toNatClampNeg = nI (B 0) := hB'.1 0 (by omega)
    dsimp only [X12_listOf_7_b5, X12_listOf_7_j89, X12_listOf_7_j80]
    rw [hb0, show (0 : Int32) = nI 0 from rfl, g_inT (by omega) (by omega)]
    obtain ⟨l1, l2⟩ := lsG_ok B t k
    rcases Nat.lt_or_eq_of_le hk with q | q
    · rw [if_neg (nI_ge q (by omega)), r_isThere hB' hw ht q, ob_s]
      have hu : lsG B t (k + 1) = if thr B t k then ((lsG B t k).1 + 1, insG (lsG B t k).2 (lsG B t k).1 (ips (fun p => tol B t p 3) (lsG B t k).2 (tol B t k 3) (lsG B t k).1) k) else lsG B t k := rfl
      by_cases e : thr B t k = true
      · rw [if_pos e] at hu
        obtain ⟨s2, i1, i2, i3, i4⟩ := r_lsI_6 hB' hw (kp := tol B t k 3) ht (tl k) (nI (lsG B t k).1) (nI k) (m := (lsG B t k).1) (by omega) (lsG B t k).2 (fun i hi => ⟨hr i hi, by have := (l2 i hi).1; omega⟩) hb (p := 0)
        have hp := ips_le (fun p => tol B t p 3) (lsG B t k).2 (tol B t k 3) (lsG B t k).1
        refine Or.inl ⟨B 0 - (k + 1), (nI (lsG B t (k + 1)).1, nI (k + 1), uA s2 6 (upd (s2.2.2.1 6) (ips (fun p => tol B t p 3) (lsG B t k).2 (tol B t k 3) (lsG B t k).1) (nI k))), by omega, ⟨k + 1, _, rfl, by omega, rfl, sx_tr hs (sx_tr i2 (sx_uA _ _ _)), fun i hi => ?_⟩, ?_⟩
        · rw [uA_at]
          rw [hu] at hi ⊢
          dsimp only at hi ⊢
          unfold insG
          by_cases q1 : i < ips (fun p => tol B t p 3) (lsG B t k).2 (tol B t k 3) (lsG B t k).1
          · rw [if_pos q1, upd_ne _ _ (by omega)]; exact i3 i q1
          · rw [if_neg q1]
            by_cases q2 : i = ips (fun p => tol B t p 3) (lsG B t k).2 (tol B t k 3) (lsG B t k).1
            · rw [if_pos q2, q2, upd_at]
            · rw [if_neg q2, if_pos (by omega), upd_ne _ _ q2]; exact i4 i (by omega) (by omega)
        · rw [e, if_pos rfl, show (3 : Int32) = nI 3 from rfl, r_toldBy hB' hw ht q (Or.inr rfl), ob_s, i1, ob_s, hu]
          try dsimp only
          rw [nI_clamp (by omega), g_inT (by omega) (by omega), thn_eq, thn_eq, thn_eq, nI_1, nI_1]
      · rw [if_neg e] at hu
        refine Or.inl ⟨B 0 - (k + 1), (nI (lsG B t (k + 1)).1, nI (k + 1), s'), by omega, ⟨k + 1, _, rfl, by omega, rfl, hs, by rw [hu]; exact hr⟩, ?_⟩
        rw [if_neg e, hu, thn_eq, nI_1]
    · subst q
      refine Or.inr ⟨_, ⟨s', rfl, hs, hr⟩, ?_⟩
      rw [if_pos (nI_le (Nat.le_refl _) (by omega))]) FU (B 0) (nI 0, nI 0, s) (by show B 0 < 100000; omega) ⟨0, s, rfl, Nat.zero_le _, rfl, sx_rf _ _, fun i h => absurd h (Nat.not_lt_zero _)⟩
  refine ⟨s', ?_, h3, h4⟩
  unfold pX12_listOf_7
  refine bd h1 ?_
  rw [h2]
theorem r_lsI_7 {s : RS} (hB : blk (s.2.2.1 4) 0 B) (hw : wfB B) {t p kp m : Nat} (ht : t < 65536) (hkp : kp < 65536) (v3 v4 : Int32) (hm : m < 16) (g : Nat → Nat) (hg : ∀ i, i < m → s.2.2.1 7 i = nI (g i) ∧ g i < B 0) (hb : ∀ j, B j < 65536) : ∃ s', a_loop (fun (q : Int32 × RS) => X12_listOf_8_b42 (nI t) v3 v4 (nI kp) q.1 q.2) FU (nI m, s) = some (nI (ips (fun p => tol B t p 3) g kp m), s') ∧ sx 7 s s' ∧ (∀ i, i < ips (fun p => tol B t p 3) g kp m → s'.2.2.1 7 i = nI (g i)) ∧ ∀ i, ips (fun p => tol B t p 3) g kp m < i → i ≤ m → s'.2.2.1 7 i = nI (g (i - 1)) := by
  have h16 := hw.1
  have tl : ∀ p, tol B t p 3 < 65536 := fun p => by unfold tol; split <;> exact hb _
  obtain ⟨x, h1, s', h2, h3, h4, h5⟩ := lp_m (body := fun (q : Int32 × RS) => X12_listOf_8_b42 (nI t) v3 v4 (nI kp) q.1 q.2) (I := fun j q => ∃ s', q = (nI j, s') ∧ j ≤ m ∧ sx 7 s s' ∧ (∀ i, i < j → s'.2.2.1 7 i = nI (g i)) ∧ (∀ i, j < i → i ≤ m → s'.2.2.1 7 i = nI (g (i - 1))) ∧ ips (fun p => tol B t p 3) g kp j = ips (fun p => tol B t p 3) g kp m) (P := fun x => ∃ s', x = (nI (ips (fun p => tol B t p 3) g kp m), s') ∧ sx 7 s s' ∧ (∀ i, i < ips (fun p => tol B t p 3) g kp m → s'.2.2.1 7 i = nI (g i)) ∧ ∀ i, ips (fun p => tol B t p 3) g kp m < i → i ≤ m → s'.2.2.1 7 i = nI (g (i - 1))) (fun j q hi => by
    obtain ⟨s', rfl, hj, hs, ha, hc, he⟩ := hi
    dsimp only [X12_listOf_8_b42]
    cases j with
    | zero =>
      refine Or.inr ⟨_, ⟨s', by rw [← he], hs, fun i hi => ha i (by rw [← he] at hi; exact hi), fun i h1 h2 => hc i (by rw [← he] at h1; exact h1) h2⟩, ?_⟩
      rw [show (0 : Int32) = nI 0 from rfl, if_pos (nI_le (a := 0) (b := 0) (Nat.le_refl _) (by omega))]; rfl
    | succ j =>
      have e1 : nI (j + 1) - (1 : Int32) = nI j := nI_pred j
      have e2 : nI (j + 1) + (-1) = nI j := pk_m1 j
      have hB' : blk (s'.2.2.1 4) 0 B := by rw [hs.2.2.2 4 (by decide)]; exact hB
      rw [e1, e2, if_neg (nI_nle (by omega) (by omega)), nI_clamp (by omega), nI_clamp (by omega), g_inT (by omega) (by omega), ha j (by omega), show (3 : Int32) = nI 3 from rfl, r_toldBy hB' hw ht (hg j (by omega)).2 (Or.inr rfl), ob_s, ifLe (by have := tl (g j); omega) (by omega)]
      have hps : ips (fun p => tol B t p 3) g kp (j + 1) = if tol B t (g j) 3 ≤ kp then j + 1 else ips (fun p => tol B t p 3) g kp j := rfl
      by_cases e : tol B t (g j) 3 ≤ kp
      · rw [if_pos e] at hps
        rw [hps] at he
        refine Or.inr ⟨_, ⟨s', by rw [← he], hs, fun i hi => ha i (by rw [← he] at hi; exact hi), fun i h1 h2 => hc i (by rw [← he] at h1; exact h1) h2⟩, ?_⟩
        rw [if_pos e]
      · rw [if_neg e] at hps
        rw [hps] at he
        refine Or.inl ⟨j, (nI j, uA s' 7 (upd (s'.2.2.1 7) (j + 1) (nI (g j)))), by omega, ⟨_, rfl, by omega, sx_tr hs (sx_uA _ _ _), fun i hi => ?_, fun i h1 h2 => ?_, he⟩, ?_⟩
        · rw [uA_at, upd_ne _ _ (by omega)]; exact ha i (by omega)
        · rw [uA_at]
          by_cases q : i = j + 1
          · subst q; rw [upd_at]; rfl
          · rw [upd_ne _ _ q]; exact hc i (by omega) h2
        · rw [if_neg e, g_inT (by omega) (by omega), g_inT (by omega) (by omega), thn_eq, thn_eq]) FU m (nI m, s) (by show m < 100000; omega) ⟨s, rfl, Nat.le_refl _, sx_rf _ _, fun i hi => (hg i hi).1, fun i h1 h2 => absurd h2 (by omega), rfl⟩
  exact ⟨s', by rw [h1, h2], h3, h4, h5⟩
theorem r_listOf_7 {s : RS} (hB : blk (s.2.2.1 4) 0 B) (hw : wfB B) {t : Nat} (ht : t < 65536) : ∃ s', pX12_listOf_8 s (nI t) = some (nI (lsG B t (B 0)).1, s') ∧ sx 7 s s' ∧ ∀ i, i < (lsG B t (B 0)).1 → s'.2.2.1 7 i = nI ((lsG B t (B 0)).2 i) := by
  have h16 := hw.1
  have hb := hB.2
  have tl : ∀ p, tol B t p 3 < 65536 := fun p => by unfold tol; split <;> exact hb _
  obtain ⟨x, h1, s', h2, h3, h4⟩ := lp_m (body := fun (q : Int32 × Int32 × RS) => X12_listOf_8_b5 (nI t) q.1 q.2.1 q.2.2) (I := fun m q => ∃ k s', m = B 0 - k ∧ k ≤ B 0 ∧ q = (nI (lsG B t k).1, nI k, s') ∧ sx 7 s s' ∧ ∀ i, i < (lsG B t k).1 → s'.2.2.1 7 i = nI ((lsG B t k).2 i)) (P := fun x => ∃ s', x = (nI (lsG B t (B 0)).1, s') ∧ sx 7 s s' ∧ ∀ i, i < (lsG B t (B 0)).1 → s'.2.2.1 7 i = nI ((lsG B t (B 0)).2 i)) (fun m q hi => by
    obtain ⟨k, s', rfl, hk, rfl, hs, hr⟩ := hi
    have hB' : blk (s'.2.2.1 4) 0 B := by rw [hs.2.2.2 4 (by decide)]; exact hB
    have hb0 : s'.2.2.1 4 (0 : Int32).toNatClampNeg = nI (B 0) := hB'.1 0 (by omega)
    dsimp only [X12_listOf_8_b5, X12_listOf_8_j89, X12_listOf_8_j80]
    rw [hb0, show (0 : Int32) = nI 0 from rfl, g_inT (by omega) (by omega)]
    obtain ⟨l1, l2⟩ := lsG_ok B t k
    rcases Nat.lt_or_eq_of_le hk with q | q
    · rw [if_neg (nI_ge q (by omega)), r_isThere hB' hw ht q, ob_s]
      have hu : lsG B t (k + 1) = if thr B t k then ((lsG B t k).1 + 1, insG (lsG B t k).2 (lsG B t k).1 (ips (fun p => tol B t p 3) (lsG B t k).2 (tol B t k 3) (lsG B t k).1) k) else lsG B t k := rfl
      by_cases e : thr B t k = true
      · rw [if_pos e] at hu
        obtain ⟨s2, i1, i2, i3, i4⟩ := r_lsI_7 hB' hw (kp := tol B t k 3) ht (tl k) (nI (lsG B t k).1) (nI k) (m := (lsG B t k).1) (by omega) (lsG B t k).2 (fun i hi => ⟨hr i hi, by have := (l2 i hi).1; omega⟩) hb (p := 0)
        have hp := ips_le (fun p => tol B t p 3) (lsG B t k).2 (tol B t k 3) (lsG B t k).1
        refine Or.inl ⟨B 0 - (k + 1), (nI (lsG B t (k + 1)).1, nI (k + 1), uA s2 7 (upd (s2.2.2.1 7) (ips (fun p => tol B t p 3) (lsG B t k).2 (tol B t k 3) (lsG B t k).1) (nI k))), by omega, ⟨k + 1, _, rfl, by omega, rfl, sx_tr hs (sx_tr i2 (sx_uA _ _ _)), fun i hi => ?_⟩, ?_⟩
        · rw [uA_at]
          rw [hu] at hi ⊢
          dsimp only at hi ⊢
          unfold insG
          by_cases q1 : i < ips (fun p => tol B t p 3) (lsG B t k).2 (tol B t k 3) (lsG B t k).1
          · rw [if_pos q1, upd_ne _ _ (by omega)]; exact i3 i q1
          · rw [if_neg q1]
            by_cases q2 : i = ips (fun p => tol B t p 3) (lsG B t k).2 (tol B t k 3) (lsG B t k).1
            · rw [if_pos q2, q2, upd_at]
            · rw [if_neg q2, if_pos (by omega), upd_ne _ _ q2]; exact i4 i (by omega) (by omega)
        · rw [e, if_pos rfl, show (3 : Int32) = nI 3 from rfl, r_toldBy hB' hw ht q (Or.inr rfl), ob_s, i1, ob_s, hu]
          try dsimp only
          rw [nI_clamp (by omega), g_inT (by omega) (by omega), thn_eq, thn_eq, thn_eq, nI_1, nI_1]
      · rw [if_neg e] at hu
        refine Or.inl ⟨B 0 - (k + 1), (nI (lsG B t (k + 1)).1, nI (k + 1), s'), by omega, ⟨k + 1, _, rfl, by omega, rfl, hs, by rw [hu]; exact hr⟩, ?_⟩
        rw [if_neg e, hu, thn_eq, nI_1]
    · subst q
      refine Or.inr ⟨_, ⟨s', rfl, hs, hr⟩, ?_⟩
      rw [if_pos (nI_le (Nat.le_refl _) (by omega))]) FU (B 0) (nI 0, nI 0, s) (by show B 0 < 100000; omega) ⟨0, s, rfl, Nat.zero_le _, rfl, sx_rf _ _, fun i h => absurd h (Nat.not_lt_zero _)⟩
  refine ⟨s', ?_, h3, h4⟩
  unfold pX12_listOf_8
  refine bd h1 ?_
  rw [h2]

end R
/-- a listing of the class that shows the LIST of a SET -/
def lsR (B : Nat → Nat) (t k : Nat) (q : RS) : Prop := q.1 0 = nI (lsG B t k).1 ∧ ∀ i, i < (lsG B t k).1 → q.2.2.1 1 i = nI ((lsG B t k).2 i) ∧ q.2.2.1 2 i = nI (tol B t ((lsG B t k).2 i) 2) ∧ q.2.2.1 3 i = nI (tol B t ((lsG B t k).2 i) 3)
theorem x_insert {q : RS} {m v1 v2 v3 : Nat} (hm : m < 16) (hq : q.1 0 = nI m) (g h2 h3 : Nat → Nat) (hv : v3 < 65536) (hh : ∀ i, h3 i < 65536) (hg : ∀ i, i < m → q.2.2.1 1 i = nI (g i) ∧ q.2.2.1 2 i = nI (h2 (g i)) ∧ q.2.2.1 3 i = nI (h3 (g i))) : ∃ q', pX2_insert q (nI v1) (nI v2) (nI v3) = some q' ∧ q'.1 0 = nI (m + 1) ∧ (∀ i, i < ips h3 g v3 m → q'.2.2.1 1 i = nI (g i) ∧ q'.2.2.1 2 i = nI (h2 (g i)) ∧ q'.2.2.1 3 i = nI (h3 (g i))) ∧ (∀ i, i = ips h3 g v3 m → q'.2.2.1 1 i = nI v1 ∧ q'.2.2.1 2 i = nI v2 ∧ q'.2.2.1 3 i = nI v3) ∧ ∀ i, ips h3 g v3 m < i → i ≤ m → q'.2.2.1 1 i = nI (g (i - 1)) ∧ q'.2.2.1 2 i = nI (h2 (g (i - 1))) ∧ q'.2.2.1 3 i = nI (h3 (g (i - 1))) := by
  have hp := ips_le h3 g v3 m
  obtain ⟨x, k1, s', k2, k3, k4, k5⟩ := lp_m (body := fun (z : Int32 × RS) => X2_insert_b16 (nI v1) (nI v2) (nI v3) z.1 z.2) (I := fun j z => ∃ s', z = (nI j, s') ∧ j ≤ m ∧ s'.1 = q.1 ∧ (∀ i, i < j → s'.2.2.1 1 i = nI (g i) ∧ s'.2.2.1 2 i = nI (h2 (g i)) ∧ s'.2.2.1 3 i = nI (h3 (g i))) ∧ (∀ i, j < i → i ≤ m → s'.2.2.1 1 i = nI (g (i - 1)) ∧ s'.2.2.1 2 i = nI (h2 (g (i - 1))) ∧ s'.2.2.1 3 i = nI (h3 (g (i - 1)))) ∧ ips h3 g v3 j = ips h3 g v3 m) (P := fun x => ∃ s', x = (nI (ips h3 g v3 m), s') ∧ s'.1 = q.1 ∧ (∀ i, i < ips h3 g v3 m → s'.2.2.1 1 i = nI (g i) ∧ s'.2.2.1 2 i = nI (h2 (g i)) ∧ s'.2.2.1 3 i = nI (h3 (g i))) ∧ ∀ i, ips h3 g v3 m < i → i ≤ m → s'.2.2.1 1 i = nI (g (i - 1)) ∧ s'.2.2.1 2 i = nI (h2 (g (i - 1))) ∧ s'.2.2.1 3 i = nI (h3 (g (i - 1)))) (fun j z hi => by
    obtain ⟨s', rfl, hj, hs, ha, hc, he⟩ := hi
    dsimp only [X2_insert_b16]
    cases j with
    | zero =>
      refine Or.inr ⟨_, ⟨s', by rw [← he], hs, fun i hi => ha i (by rw [← he] at hi; exact hi), fun i h1 h2 => hc i (by rw [← he] at h1; exact h1) h2⟩, ?_⟩
      rw [show (0 : Int32) = nI 0 from rfl, if_pos (nI_le (a := 0) (b := 0) (Nat.le_refl _) (by omega))]; rfl
    | succ j =>
      have e1 : nI (j + 1) - (1 : Int32) = nI j := nI_pred j
      have e2 : nI (j + 1) + (-1) = nI j := pk_m1 j
      have hj3 := hh (g j)
      obtain ⟨a1, a2, a3⟩ := ha j (by omega)
      rw [e1, e2, if_neg (nI_nle (by omega) (by omega)), nI_clamp (n := j) (by omega), nI_clamp (n := j + 1) (by omega)]
      simp (disch := omega) only [g_inT, thn_eq]
      have hps : ips h3 g v3 (j + 1) = if h3 (g j) ≤ v3 then j + 1 else ips h3 g v3 j := rfl
      by_cases e : h3 (g j) ≤ v3
      · rw [if_pos e] at hps
        rw [hps] at he
        refine Or.inr ⟨_, ⟨s', by rw [← he], hs, fun i hi => ha i (by rw [← he] at hi; exact hi), fun i h1 h2 => hc i (by rw [← he] at h1; exact h1) h2⟩, ?_⟩
        rw [a3, if_pos (nI_le e (by omega))]
      · rw [if_neg e] at hps
        rw [hps] at he
        refine Or.inl ⟨j, (nI j, uA (uA (uA s' 1 (upd (s'.2.2.1 1) (j + 1) (s'.2.2.1 1 j))) 2 (upd (s'.2.2.1 2) (j + 1) (s'.2.2.1 2 j))) 3 (upd (s'.2.2.1 3) (j + 1) (s'.2.2.1 3 j))), by omega, ⟨_, rfl, by omega, hs, fun i hi => ?_, fun i h1 h2 => ?_, he⟩, ?_⟩
        · have := ha i (by omega)
          rw [uA_at, uA_ne _ _ (by decide), uA_ne _ _ (by decide), uA_at, uA_ne _ _ (by decide), uA_at, upd_ne _ _ (by omega), upd_ne _ _ (by omega), upd_ne _ _ (by omega)]
          exact this
        · rw [uA_at, uA_ne _ _ (by decide), uA_ne _ _ (by decide), uA_at, uA_ne _ _ (by decide), uA_at]
          by_cases q : i = j + 1
          · subst q
            rw [upd_at, upd_at, upd_at]
            exact ⟨a1, a2, a3⟩
          · rw [upd_ne _ _ q, upd_ne _ _ q, upd_ne _ _ q]; exact hc i (by omega) h2
        · rw [if_neg (by rw [a3]; exact nI_ge (by omega) (by omega))]; rfl) FU m (nI m, q) (by show m < 100000; omega) ⟨q, rfl, Nat.le_refl _, rfl, hg, fun i h1 h2 => absurd h2 (by omega), rfl⟩
  refine ⟨uI (uA (uA (uA s' 1 (upd (s'.2.2.1 1) (ips h3 g v3 m) (nI v1))) 2 (upd (s'.2.2.1 2) (ips h3 g v3 m) (nI v2))) 3 (upd (s'.2.2.1 3) (ips h3 g v3 m) (nI v3))) 0 (nI (m + 1)), ?_, rfl, fun i hi => ?_, fun i hi => ?_, fun i h1 h2 => ?_⟩
  · unfold pX2_insert
    rw [hq, show (16 : Int32) = nI 16 from rfl, if_pos (nI_lt hm (by omega)), thn_eq]
    refine bd k1 ?_
    rw [k2]
    dsimp only [X2_insert_j88]
    rw [nI_clamp (by omega)]
    simp (disch := omega) only [g_inT, thn_eq]
    show some (uI _ 0 (s'.1 0 + 1)) = _
    rw [k3, hq, nI_1]
    rfl
  · have := k4 i hi
    show _ ∧ _ ∧ _
    dsimp only [uI]
    rw [uA_at, uA_ne _ _ (by decide), uA_ne _ _ (by decide), uA_at, uA_ne _ _ (by decide), uA_at, upd_ne _ _ (by omega), upd_ne _ _ (by omega), upd_ne _ _ (by omega)]
    exact this
  · subst hi
    dsimp only [uI]
    rw [uA_at, uA_ne _ _ (by decide), uA_ne _ _ (by decide), uA_at, uA_ne _ _ (by decide), uA_at, upd_at, upd_at, upd_at]
    exact ⟨rfl, rfl, rfl⟩
  · have := k5 i h1 h2
    dsimp only [uI]
    rw [uA_at, uA_ne _ _ (by decide), uA_ne _ _ (by decide), uA_at, uA_ne _ _ (by decide), uA_at, upd_ne _ _ (by omega), upd_ne _ _ (by omega), upd_ne _ _ (by omega)]
    exact this
theorem x_fill {r : RS} {B : Nat → Nat} (hR : bkR B r) (hw : wfB B) (hb : ∀ j, B j < 65536) {t : Nat} (ht : t < 65536) (q : RS) : ∃ q', pX2_fill q r (nI t) = some q' ∧ lsR B t (B 0) q' := by
  have h16 := hw.1
  have tl : ∀ p, tol B t p 3 < 65536 := fun p => by unfold tol; split <;> exact hb _
  unfold pX2_fill
  rw [thn_eq, x_leftOutIn hR hw ht, ob_s]
  obtain ⟨x, h1, h2⟩ := lp_m (body := fun (z : Int32 × RS) => X2_fill_b14 (nI t) (nI (mkN (fun k => lo B t k) 16)) z.1 z.2 r) (I := fun m z => ∃ k q', m = B 0 - k ∧ k ≤ B 0 ∧ z = (nI k, q') ∧ lsR B t k q') (P := fun x => lsR B t (B 0) x) (fun m z hi => by
    obtain ⟨k, q', rfl, hk, rfl, hl⟩ := hi
    dsimp only [X2_fill_b14, X2_fill_j80]
    rw [hR.2.1]
    obtain ⟨l1, l2⟩ := lsG_ok B t k
    rcases Nat.lt_or_eq_of_le hk with q | q
    · have hu : lsG B t (k + 1) = if thr B t k then ((lsG B t k).1 + 1, insG (lsG B t k).2 (lsG B t k).1 (ips (fun p => tol B t p 3) (lsG B t k).2 (tol B t k 3) (lsG B t k).1) k) else lsG B t k := rfl
      have ht' : thr B t k = (t.testBit k && B (2 + k) == 0 && !anN (fun x => t.testBit x && B (2 + x) == 1 && thB B x == k && !lo B t x && qrs B t x == 0) (B 0)) := rfl
      rw [if_neg (nI_ge q (by omega)), x_isPut hR hw q, ob_s, isInT (by omega) (by omega), ob_s, x_isGone hR hw ht q, ob_s]
      by_cases e : thr B t k = true
      · have hput := thr_put e
        rw [if_pos e] at hu
        rw [ht', hput.2, hput.1] at e
        have e2 : anN (fun x => t.testBit x && B (2 + x) == 1 && thB B x == k && !lo B t x && qrs B t x == 0) (B 0) = false := by simpa using e
        obtain ⟨q2, i1, i2, i3, i4, i5⟩ := x_insert (q := q') (m := (lsG B t k).1) (v1 := k) (v2 := tol B t k 2) (v3 := tol B t k 3) (by omega) hl.1 (lsG B t k).2 (fun p => tol B t p 2) (fun p => tol B t p 3) (tl k) tl hl.2
        refine Or.inl ⟨B 0 - (k + 1), (nI (k + 1), q2), by omega, ⟨k + 1, q2, rfl, by omega, rfl, ?_⟩, ?_⟩
        · unfold lsR
          rw [hu]
          refine ⟨i2, fun i hi => ?_⟩
          dsimp only at hi ⊢
          unfold insG
          by_cases q1 : i < ips (fun p => tol B t p 3) (lsG B t k).2 (tol B t k 3) (lsG B t k).1
          · rw [if_pos q1]; exact i3 i q1
          · rw [if_neg q1]
            by_cases q3 : i = ips (fun p => tol B t p 3) (lsG B t k).2 (tol B t k 3) (lsG B t k).1
            · rw [if_pos q3]; exact i4 i q3
            · rw [if_neg q3, if_pos (by omega)]; exact i5 i (by omega) (by omega)
        · rw [hput.1, hput.2, e2]
          simp only [beq_self_eq_true, if_true, Bool.false_eq_true, if_false]
          rw [show (2 : Int32) = nI 2 from rfl, show (3 : Int32) = nI 3 from rfl, x_toldNumber hR hw ht q hput.1 (Or.inl rfl), ob_s, x_toldNumber hR hw ht q hput.1 (Or.inr rfl), ob_s, i1, ob_s, thn_eq, nI_1]
      · rw [if_neg e] at hu
        refine Or.inl ⟨B 0 - (k + 1), (nI (k + 1), q'), by omega, ⟨k + 1, q', rfl, by omega, rfl, by unfold lsR; rw [hu]; exact hl⟩, ?_⟩
        rw [ht'] at e
        simp only [thn_eq, nI_1]
        cases e1 : (B (2 + k) == 0)
        · rfl
        · cases e2 : t.testBit k
          · rfl
          · rw [e1, e2] at e
            have e3 : anN (fun x => t.testBit x && B (2 + x) == 1 && thB B x == k && !lo B t x && qrs B t x == 0) (B 0) = true := by simpa using e
            rw [e3]; rfl
    · subst q
      refine Or.inr ⟨q', hl, ?_⟩
      rw [if_pos (nI_le (Nat.le_refl _) (by omega))]) FU (B 0) (nI 0, uI q 0 (0 : Int32)) (by show B 0 < 100000; omega) ⟨0, _, rfl, Nat.zero_le _, rfl, rfl, fun i h => absurd h (Nat.not_lt_zero _)⟩
  exact ⟨x, bd h1 rfl, h2⟩
