/-! TEXTS: segments of a LOG that grows -/
section V
variable {lg lg' : RS} {c c' : Nat → Int32} {B : Nat → Nat}
theorem sg_fu : ∀ (n d a b k t : Nat), sg B lg c n d a b k t → sg B lg c (n + 1) d a b k t
  | 0, _, _, _, _, _, h => Or.inl h
  | n + 1, d, a, b, k, t, h => by
    rcases h with h | ⟨h1, h2, h3⟩ | ⟨d', e, m, p0, p1, p2, p3, p4, p5, h1, h2⟩
    · exact Or.inl h
    · exact Or.inr (Or.inl ⟨h1, h2, sg_fu n _ _ _ _ _ h3⟩)
    · exact Or.inr (Or.inr ⟨d', e, m, p0, p1, p2, p3, p4, p5, sg_fu n _ _ _ _ _ h1, sg_fu n _ _ _ _ _ h2⟩)
theorem sg_fl {d a b k t : Nat} (n : Nat) (h : sg B lg c n d a b k t) : ∀ m, sg B lg c (n + m) d a b k t
  | 0 => h
  | m + 1 => sg_fu (n + m) d a b k t (sg_fl n h m)
theorem smR_cg {a k : Nat} (hl : ∀ n, lg'.2.2.1 n a = lg.2.2.1 n a) (h0 : c' (137 + 7 * k) = c (137 + 7 * k)) (hc : ∀ i, i < 6 → c' (137 + 7 * k + i) = c (137 + 7 * k + i)) (h : smR B lg c a k) : smR B lg' c' a k := by
  unfold smR at h ⊢
  rw [hl 2, hl 3, hl 4, hl 5, hl 6, h0, hc 1 (by omega), hc 2 (by omega), hc 3 (by omega), hc 4 (by omega)]
  exact h
theorem opW_cg {a k : Nat} (hl : ∀ n, n ≠ 7 → lg'.2.2.1 n a = lg.2.2.1 n a) (h0 : c' (137 + 7 * k) = c (137 + 7 * k)) (hc : ∀ i, i < 6 → c' (137 + 7 * k + i) = c (137 + 7 * k + i)) (h : opW B lg c a k) : opW B lg' c' a k := by
  unfold opW at h ⊢
  rw [hl 2 (by decide), hl 3 (by decide), hl 4 (by decide), hl 5 (by decide), h0, hc 1 (by omega), hc 2 (by omega), hc 5 (by omega)]
  exact h
theorem opL_cg {a k : Nat} (hl : ∀ n, n ≠ 7 → lg'.2.2.1 n a = lg.2.2.1 n a) (h0 : c' (137 + 7 * k) = c (137 + 7 * k)) (hc : ∀ i, i < 6 → c' (137 + 7 * k + i) = c (137 + 7 * k + i)) (h : opL lg c a k) : opL lg' c' a k := by
  unfold opL at h ⊢
  rw [hl 2 (by decide), hl 5 (by decide), h0, hc 1 (by omega)]
  exact h
theorem sg_cg : ∀ (n d a b k t : Nat), (∀ m i, a ≤ i → i < b → lg'.2.2.1 m i = lg.2.2.1 m i) → (∀ x, 137 + 7 * k ≤ x → x < 137 + 7 * t → c' x = c x) → sg B lg c n d a b k t → sg B lg' c' n d a b k t
  | 0, _, _, _, _, _, _, _, h => h
  | n + 1, d, a, b, k, t, hl, hc, h => by
    rcases h with h | ⟨h1, h2, h3⟩ | ⟨d', e, m, p0, p1, p2, p3, p4, p5, h1, h2⟩
    · exact Or.inl h
    · have l3 := sg_le _ _ _ _ _ _ h3
      refine Or.inr (Or.inl ⟨smR_cg (fun n => hl n a (by omega) (by omega)) (hc _ (by omega) (by omega)) (fun i hi => hc _ (by omega) (by omega)) h1, ?_, sg_cg n d _ _ _ _ (fun m i i1 i2 => hl m i (by omega) i2) (fun x x1 x2 => hc x (by omega) x2) h3⟩)
      rw [hc _ (by omega) (by omega)]; exact h2
    · have l1 := sg_le _ _ _ _ _ _ h1
      have l2 := sg_le _ _ _ _ _ _ h2
      refine Or.inr (Or.inr ⟨d', e, m, p0, ?_, ?_, ?_, ?_, ?_, sg_cg n d' _ _ _ _ (fun m i i1 i2 => hl m i (by omega) (by omega)) (fun x x1 x2 => hc x (by omega) (by omega)) h1, sg_cg n d _ _ _ _ (fun m i i1 i2 => hl m i (by omega) (by omega)) (fun x x1 x2 => hc x (by omega) (by omega)) h2⟩)
      · rcases p1 with p1 | p1
        · exact Or.inl (opW_cg (fun n _ => hl n a (by omega) (by omega)) (hc _ (by omega) (by omega)) (fun i hi => hc _ (by omega) (by omega)) p1)
        · exact Or.inr (opL_cg (fun n _ => hl n a (by omega) (by omega)) (hc _ (by omega) (by omega)) (fun i hi => hc _ (by omega) (by omega)) p1)
      · rw [hl 7 a (by omega) (by omega)]; exact p2
      · rw [hl 2 e (by omega) (by omega)]; exact p3
      · rw [hl 7 e (by omega) (by omega)]; exact p4
      · rw [hc _ (by omega) (by omega)]; exact p5
/-- one STEP of a segment, with what it holds -/
def el (B : Nat → Nat) (lg : RS) (c : Nat → Int32) (d a a' k k' : Nat) : Prop :=
  (smR B lg c a k ∧ c (137 + 7 * k + 6) = nI (k + 1) ∧ a' = a + 1 ∧ k' = k + 1) ∨
  (∃ n d' e, d = d' + 1 ∧ (opW B lg c a k ∨ opL lg c a k) ∧ lg.2.2.1 7 a = nI e ∧ lg.2.2.1 2 e = nI 26 ∧ lg.2.2.1 7 e = nI a ∧ c (137 + 7 * k + 6) = nI k' ∧ sg B lg c n d' (a + 1) e (k + 1) k' ∧ a' = e + 1)
theorem el_le {d a a' k k' : Nat} (h : el B lg c d a a' k k') : a < a' ∧ k < k' := by
  rcases h with ⟨_, _, h1, h2⟩ | ⟨n, d', e, _, _, _, _, _, _, h1, h2⟩
  · omega
  · have := sg_le _ _ _ _ _ _ h1
    omega
theorem el_cg {d a a' k k' : Nat} (hl : ∀ m i, a ≤ i → i < a' → lg'.2.2.1 m i = lg.2.2.1 m i) (hc : ∀ x, 137 + 7 * k ≤ x → x < 137 + 7 * k' → c' x = c x) (h : el B lg c d a a' k k') : el B lg' c' d a a' k k' := by
  rcases h with ⟨h1, h2, h3, h4⟩ | ⟨n, d', e, p0, p1, p2, p3, p4, p5, h1, h2⟩
  · refine Or.inl ⟨smR_cg (fun n => hl n a (by omega) (by omega)) (hc _ (by omega) (by omega)) (fun i hi => hc _ (by omega) (by omega)) h1, ?_, h3, h4⟩
    rw [hc _ (by omega) (by omega)]; exact h2
  · have l1 := sg_le _ _ _ _ _ _ h1
    refine Or.inr ⟨n, d', e, p0, ?_, ?_, ?_, ?_, ?_, sg_cg n d' _ _ _ _ (fun m i i1 i2 => hl m i (by omega) (by omega)) (fun x x1 x2 => hc x (by omega) (by omega)) h1, h2⟩
    · rcases p1 with p1 | p1
      · exact Or.inl (opW_cg (fun n _ => hl n a (by omega) (by omega)) (hc _ (by omega) (by omega)) (fun i hi => hc _ (by omega) (by omega)) p1)
      · exact Or.inr (opL_cg (fun n _ => hl n a (by omega) (by omega)) (hc _ (by omega) (by omega)) (fun i hi => hc _ (by omega) (by omega)) p1)
    · rw [hl 7 a (by omega) (by omega)]; exact p2
    · rw [hl 2 e (by omega) (by omega)]; exact p3
    · rw [hl 7 e (by omega) (by omega)]; exact p4
    · rw [hc _ (by omega) (by omega)]; exact p5
theorem el_sg {n d a a' b k k' t : Nat} (h : el B lg c d a a' k k') (g : sg B lg c n d a' b k' t) : ∃ m, sg B lg c m d a b k t := by
  rcases h with ⟨h1, h2, rfl, rfl⟩ | ⟨n1, d', e, p0, p1, p2, p3, p4, p5, h1, rfl⟩
  · exact ⟨n + 1, Or.inr (Or.inl ⟨h1, h2, g⟩)⟩
  · refine ⟨n1 + n + 1, Or.inr (Or.inr ⟨d', e, k', p0, p1, p2, p3, p4, p5, sg_fl n1 h1 n, ?_⟩)⟩
    rw [Nat.add_comm n1 n]
    exact sg_fl n g n1
end V
