/-! BOOKS: the class counts one CHANGE more -/
theorem r_clash {a b : Nat} (ha : a ≤ 4) (hb : b ≤ 4) : pX0_doClash (nI a) (nI b) = some (fgt a b) := by
  have : ∀ a, a < 5 → ∀ b, b < 5 → pX0_doClash (nI a) (nI b) = some (fgt a b) := by decide +kernel
  exact this a (by omega) b (by omega)
theorem maxT {a b : Nat} (ha : a < 2 ^ 31) (hb : b < 2 ^ 31) : pJ9_max_7cf53 (nI a) (nI b) = some (nI (max a b)) := by
  unfold pJ9_max_7cf53
  rw [ifLt (by omega) (by omega)]
  by_cases c : a < b
  · rw [if_pos c, Nat.max_eq_right (by omega)]
  · rw [if_neg c, Nat.max_eq_left (by omega)]
/-- of a Book only the rows m and n have changed -/
def rw2 (m n : Nat) (r r' : RS) : Prop := r'.1 = r.1 ∧ r'.2.1 = r.2.1 ∧ r'.2.2.2 = r.2.2.2 ∧ ∀ x, x ≠ m → x ≠ n → r'.2.2.1 x = r.2.2.1 x
theorem rw2_rf (m n : Nat) (r : RS) : rw2 m n r r := ⟨rfl, rfl, rfl, fun _ _ _ => rfl⟩
theorem rw2_u {m n : Nat} {r r' : RS} (h : rw2 m n r r') {x : Nat} (hx : x = m ∨ x = n) (f : Nat → Int32) : rw2 m n r (uA r' x f) := ⟨h.1, h.2.1, h.2.2.1, fun y h1 h2 => (uA_ne _ _ (by rcases hx with rfl | rfl; exact h1; exact h2)).trans (h.2.2.2 y h1 h2)⟩
section G
variable {B B' : Nat → Nat} {k : Nat} {r : RS}
def alB (B B' : Nat → Nat) (k d : Nat) : Nat := B' (82 + k) ||| orN (fun j => if (B' (82 + k)).testBit j then B (98 + j) else 0) d
def lvD (B B' : Nat → Nat) (k d : Nat) : Nat := mxN (fun i => if (B' (82 + k)).testBit i then lvB B i + 1 else 0) d
theorem lvD_le (hk : k < 16) : ∀ d, d ≤ k → lvD B B' k d ≤ 16 := fun d hd => by
  unfold lvD
  apply mxN_le
  intro i hi
  have := lvF_le (B := B) (i + 1) i
  have e : lvB B i = lvF B (i + 1) i := rfl
  split <;> omega
theorem alB_k (hn : nwB B B' k) : alB B B' k k = B' (98 + k) := by
  apply Nat.eq_of_testBit_eq
  intro i
  rw [hn.2.2.2.1 i, alB, Nat.testBit_or, orN_tb]
  congr 1
  apply anN_cg
  intro j hj
  cases (B' (82 + k)).testBit j
  · rw [if_neg Bool.false_ne_true, Nat.zero_testBit, Bool.false_and]
  · rw [if_pos rfl, Bool.true_and]
theorem alB_lt (hw : wfB B) (h0 : B 0 = k) (hk : k < 16) (hn : nwB B B' k) {d : Nat} (hd : d ≤ k) : alB B B' k d < 65536 := by
  have p : 2 ^ k ≤ 2 ^ 16 := Nat.pow_le_pow_right (by decide) (by omega)
  refine or_lt (n := 16) (by have := hn.2.1; omega) (orN_lt (fun j hj => ?_))
  split
  · exact (wfB_v hw (by omega)).2.2
  · decide
theorem x_add1 (hR : bkR B r) (hw : wfB B) (h0 : B 0 = k) (hk : k < 16) (hn : nwB B B' k) (h9 : r.2.2.1 9 k = nI (B' (82 + k))) (h10 : r.2.2.1 10 k = nI (B' (82 + k))) (h8 : r.2.2.1 8 k = nI 0) : ∃ r', a_loop (fun (q : Int32 × RS) => X0_addChange_b33 (nI k) q.1 q.2) FU (nI 0, r) = some r' ∧ rw2 10 8 r r' ∧ (∀ i, i ≠ k → r'.2.2.1 10 i = r.2.2.1 10 i ∧ r'.2.2.1 8 i = r.2.2.1 8 i) ∧ r'.2.2.1 10 k = nI (B' (98 + k)) ∧ r'.2.2.1 8 k = nI (lvD B B' k k) := by
  have p : 2 ^ k ≤ 2 ^ 16 := Nat.pow_le_pow_right (by decide) (by omega)
  have h82 := hn.2.1
  obtain ⟨x, e1, e2⟩ := lp_m (body := fun (q : Int32 × RS) => X0_addChange_b33 (nI k) q.1 q.2) (I := fun m q => ∃ d r', d ≤ k ∧ m = k - d ∧ q = (nI d, r') ∧ rw2 10 8 r r' ∧ (∀ i, i ≠ k → r'.2.2.1 10 i = r.2.2.1 10 i ∧ r'.2.2.1 8 i = r.2.2.1 8 i) ∧ r'.2.2.1 10 k = nI (alB B B' k d) ∧ r'.2.2.1 8 k = nI (lvD B B' k d)) (P := fun r' => rw2 10 8 r r' ∧ (∀ i, i ≠ k → r'.2.2.1 10 i = r.2.2.1 10 i ∧ r'.2.2.1 8 i = r.2.2.1 8 i) ∧ r'.2.2.1 10 k = nI (alB B B' k k) ∧ r'.2.2.1 8 k = nI (lvD B B' k k)) (fun m q hi => by
    obtain ⟨d, r', hd, rfl, rfl, s1, s2, s3, s4⟩ := hi
    dsimp only [X0_addChange_b33, X0_addChange_j89]
    by_cases c : d = k
    · subst c
      rw [if_pos (nI_le (Nat.le_refl _) (by omega))]
      exact Or.inr ⟨r', ⟨s1, s2, s3, s4⟩, rfl⟩
    · have hdk : d < k := by omega
      have l1 := lvD_le (B := B) (B' := B') hk d hd
      have l2 := lvF_le (B := B) (d + 1) d
      have l2' : lvB B d = lvF B (d + 1) d := rfl
      have bk := hR.2.2.2 d (by omega)
      left
      rw [if_neg (nI_ge hdk (by omega))]
      simp (disch := omega) only [g_inT, nI_clamp]
      rw [s1.2.2.2 9 (by decide) (by decide), h9, isInT (by omega) (by omega), ob_s]
      have as : alB B B' k (d + 1) = alB B B' k d ||| (if (B' (82 + k)).testBit d then B (98 + d) else 0) := by
        unfold alB
        rw [Nat.or_assoc]; rfl
      have ls : lvD B B' k (d + 1) = max (lvD B B' k d) (if (B' (82 + k)).testBit d then lvB B d + 1 else 0) := rfl
      cases c2 : (B' (82 + k)).testBit d with
      | false =>
        rw [if_neg Bool.false_ne_true, thn_eq, nI_1]
        rw [c2, if_neg Bool.false_ne_true] at as ls
        refine ⟨k - (d + 1), (nI (d + 1), r'), by omega, ⟨d + 1, r', by omega, rfl, rfl, s1, s2, ?_, ?_⟩, rfl⟩
        · rw [as, Nat.or_zero, s3]
        · rw [ls, Nat.max_eq_left (Nat.zero_le _), s4]
      | true =>
        rw [if_pos rfl]
        rw [c2, if_pos rfl] at as ls
        simp only [thn_eq]
        rw [s3, (s2 d (by omega)).1, bk.2.2.2.2.2.2.1, orI, ← as]
        have u8 : ∀ f, (uA r' 10 f).2.2.1 8 = r'.2.2.1 8 := fun f => uA_ne _ _ (by decide)
        rw [u8, s4, (s2 d (by omega)).2, bk.2.2.2.2.1, nI_1, maxT (by omega) (by omega), ob_s, ← ls, nI_1]
        refine ⟨k - (d + 1), _, by omega, ⟨d + 1, _, by omega, rfl, rfl, rw2_u (rw2_u s1 (Or.inl rfl) _) (Or.inr rfl) _, fun i hi => ⟨?_, ?_⟩, ?_, ?_⟩, rfl⟩
        · rw [uA_ne _ _ (by decide), uA_at, upd_ne _ _ hi]; exact (s2 i hi).1
        · rw [uA_at, upd_ne _ _ hi]; exact (s2 i hi).2
        · rw [uA_ne _ _ (by decide), uA_at, upd_at]
        · rw [uA_at, upd_at]) FU k (nI 0, r) (by show k < 100000; omega) ⟨0, r, Nat.zero_le _, rfl, rfl, rw2_rf 10 8 r, fun _ _ => ⟨rfl, rfl⟩, by rw [h10, show alB B B' k 0 = B' (82 + k) from Nat.or_zero _], h8⟩
  obtain ⟨x1, x2, x3, x4⟩ := e2
  rw [alB_k hn] at x3
  exact ⟨x, e1, x1, x2, x3, x4⟩
/-- rows 11 and 12 after d of the CHANGES -/
theorem x_add2 (hR : ∀ i, i < k → r.2.2.1 4 i = nI (B (2 + i)) ∧ r.2.2.1 7 i = nI (thB B i) ∧ r.2.2.1 11 i = nI (hgr B i) ∧ r.2.2.1 12 i = nI (foe B i)) (hw : wfB B) (h0 : B 0 = k) (hk : k < 16) (h2 : B' (2 + k) ≤ 4) (h98 : B' (98 + k) < 2 ^ k) (ht : thB B' k ≤ k) (h4 : r.2.2.1 4 k = nI (B' (2 + k))) (h7 : r.2.2.1 7 k = nI (thB B' k)) (h10 : r.2.2.1 10 k = nI (B' (98 + k))) (h12 : r.2.2.1 12 k = nI 0) : ∃ r', a_loop (fun (q : Int32 × RS) => X0_addChange_b97 (nI k) q.1 q.2) FU (nI 0, r) = some r' ∧ rw2 11 12 r r' ∧ (∀ i, k ≤ i → r'.2.2.1 11 i = r.2.2.1 11 i) ∧ (∀ i, k < i → r'.2.2.1 12 i = r.2.2.1 12 i) ∧ (∀ i, i < k → r'.2.2.1 11 i = nI (hgr B i ||| (if (B' (98 + k)).testBit i then 2 ^ k else 0)) ∧ r'.2.2.1 12 i = nI (foe B i ||| (if gwq B B' k i then 2 ^ k else 0))) ∧ r'.2.2.1 12 k = nI (mkN (gwq B B' k) k) := by
  have p : 2 ^ k ≤ 2 ^ 16 := Nat.pow_le_pow_right (by decide) (by omega)
  obtain ⟨x, e1, e2⟩ := lp_m (body := fun (q : Int32 × RS) => X0_addChange_b97 (nI k) q.1 q.2) (I := fun m q => ∃ d r', d ≤ k ∧ m = k - d ∧ q = (nI d, r') ∧ rw2 11 12 r r' ∧ (∀ i, d ≤ i → r'.2.2.1 11 i = r.2.2.1 11 i) ∧ (∀ i, d ≤ i → i ≠ k → r'.2.2.1 12 i = r.2.2.1 12 i) ∧ (∀ i, i < d → r'.2.2.1 11 i = nI (hgr B i ||| (if (B' (98 + k)).testBit i then 2 ^ k else 0)) ∧ r'.2.2.1 12 i = nI (foe B i ||| (if gwq B B' k i then 2 ^ k else 0))) ∧ r'.2.2.1 12 k = nI (mkN (gwq B B' k) d)) (P := fun r' => rw2 11 12 r r' ∧ (∀ i, k ≤ i → r'.2.2.1 11 i = r.2.2.1 11 i) ∧ (∀ i, k < i → r'.2.2.1 12 i = r.2.2.1 12 i) ∧ (∀ i, i < k → r'.2.2.1 11 i = nI (hgr B i ||| (if (B' (98 + k)).testBit i then 2 ^ k else 0)) ∧ r'.2.2.1 12 i = nI (foe B i ||| (if gwq B B' k i then 2 ^ k else 0))) ∧ r'.2.2.1 12 k = nI (mkN (gwq B B' k) k)) (fun m q hi => by
    obtain ⟨d, r', hd, rfl, rfl, s1, s2, s3, s4, s5⟩ := hi
    dsimp only [X0_addChange_b97, X0_addChange_j187]
    by_cases c : d = k
    · subst c
      rw [if_pos (nI_le (Nat.le_refl _) (by omega))]
      exact Or.inr ⟨r', ⟨s1, s2, fun i hi => s3 i (by omega) (by omega), s4, s5⟩, rfl⟩
    · have hdk : d < k := by omega
      obtain ⟨b4, b7, b11, b12⟩ := hR d hdk
      have t1 := (thB_lt hw (show d < B 0 by omega)).1
      have kd := (hw.2.2 d (by omega)).1
      left
      rw [if_neg (nI_ge hdk (by omega))]
      simp (disch := omega) only [g_inT, nI_clamp]
      rw [s1.2.2.2 10 (by decide) (by decide), s1.2.2.2 7 (by decide) (by decide), s1.2.2.2 4 (by decide) (by decide), h10, isInT (by omega) (by omega), ob_s, b7, h7, b4, h4, ifE (by omega) (by omega), r_clash kd h2, ob_s]
      simp only [thn_eq]
      rw [nI_1, show (1 : Int32) = nI 1 from rfl, show (31 : Int32) = nI 31 from rfl, s1I (by omega), s1I (by omega)]
      have ks : mkN (gwq B B' k) (d + 1) = mkN (gwq B B' k) d ||| (if gwq B B' k d then 2 ^ d else 0) := rfl
      cases c2 : (B' (98 + k)).testBit d with
      | true =>
        have gf : gwq B B' k d = false := by unfold gwq; rw [c2]; rfl
        rw [gf, if_neg Bool.false_ne_true, Nat.or_zero] at ks
        rw [if_pos rfl, s2 d (Nat.le_refl _), b11, orI]
        refine ⟨k - (d + 1), _, by omega, ⟨d + 1, _, by omega, rfl, rfl, rw2_u s1 (Or.inl rfl) _, fun i hi => ?_, fun i hi hik => ?_, fun i hi => ⟨?_, ?_⟩, ?_⟩, rfl⟩
        · rw [uA_at, upd_ne _ _ (by omega)]; exact s2 i (by omega)
        · rw [uA_ne _ _ (by decide)]; exact s3 i (by omega) hik
        · by_cases ci : i = d
          · rw [ci, uA_at, upd_at, c2, if_pos rfl]
          · rw [uA_at, upd_ne _ _ ci]; exact (s4 i (by omega)).1
        · rw [uA_ne _ _ (by decide)]
          by_cases ci : i = d
          · rw [ci, gf, if_neg Bool.false_ne_true, Nat.or_zero, s3 d (Nat.le_refl _) c, b12]
          · exact (s4 i (by omega)).2
        · rw [uA_ne _ _ (by decide), ks]; exact s5
      | false =>
        have gg : gwq B B' k d = (thB B d == thB B' k && fgt (B (2 + d)) (B' (2 + k))) := by unfold gwq; rw [c2]; rfl
        have no : gwq B B' k d = false → ∃ m' s', m' < k - d ∧ (∃ d r', d ≤ k ∧ m' = k - d ∧ s' = (nI d, r') ∧ rw2 11 12 r r' ∧ (∀ i, d ≤ i → r'.2.2.1 11 i = r.2.2.1 11 i) ∧ (∀ i, d ≤ i → i ≠ k → r'.2.2.1 12 i = r.2.2.1 12 i) ∧ (∀ i, i < d → r'.2.2.1 11 i = nI (hgr B i ||| (if (B' (98 + k)).testBit i then 2 ^ k else 0)) ∧ r'.2.2.1 12 i = nI (foe B i ||| (if gwq B B' k i then 2 ^ k else 0))) ∧ r'.2.2.1 12 k = nI (mkN (gwq B B' k) d)) ∧ (some (.inl (nI (d + 1), r')) : Option ((Int32 × RS) ⊕ RS)) = some (.inl s') := fun gf => by
          rw [gf, if_neg Bool.false_ne_true, Nat.or_zero] at ks
          refine ⟨k - (d + 1), _, by omega, ⟨d + 1, r', by omega, rfl, rfl, s1, fun i hi => s2 i (by omega), fun i hi hik => s3 i (by omega) hik, fun i hi => ?_, by rw [ks]; exact s5⟩, rfl⟩
          by_cases ci : i = d
          · rw [ci, gf, c2, if_neg Bool.false_ne_true, Nat.or_zero, Nat.or_zero, s2 d (Nat.le_refl _), b11, s3 d (Nat.le_refl _) c, b12]
            exact ⟨rfl, rfl⟩
          · exact s4 i (by omega)
        rw [if_neg Bool.false_ne_true]
        by_cases c3 : thB B d = thB B' k
        · rw [if_pos c3]
          rw [c3, beq_self_eq_true, Bool.true_and] at gg
          cases c4 : fgt (B (2 + d)) (B' (2 + k)) with
          | false =>
            rw [if_neg Bool.false_ne_true]
            exact no (gg.trans c4)
          | true =>
            have gt : gwq B B' k d = true := gg.trans c4
            rw [gt, if_pos rfl] at ks
            rw [if_pos rfl, s3 d (Nat.le_refl _) c, b12, orI, uA_at, upd_ne _ _ (show k ≠ d by omega), s5, orI, ← ks]
            refine ⟨k - (d + 1), _, by omega, ⟨d + 1, _, by omega, rfl, rfl, rw2_u (rw2_u s1 (Or.inr rfl) _) (Or.inr rfl) _, fun i hi => ?_, fun i hi hik => ?_, fun i hi => ⟨?_, ?_⟩, ?_⟩, rfl⟩
            · rw [uA_ne _ _ (by decide), uA_ne _ _ (by decide)]; exact s2 i (by omega)
            · rw [uA_at, upd_ne _ _ hik, upd_ne _ _ (by omega)]; exact s3 i (by omega) hik
            · rw [uA_ne _ _ (by decide), uA_ne _ _ (by decide)]
              by_cases ci : i = d
              · rw [ci, c2, if_neg Bool.false_ne_true, Nat.or_zero, s2 d (Nat.le_refl _), b11]
              · exact (s4 i (by omega)).1
            · rw [uA_at, upd_ne _ _ (show i ≠ k by omega)]
              by_cases ci : i = d
              · rw [ci, upd_at, gt, if_pos rfl]
              · rw [upd_ne _ _ ci]; exact (s4 i (by omega)).2
            · rw [uA_at, upd_at]
        · rw [if_neg c3]
          refine no (gg.trans ?_)
          rw [show (thB B d == thB B' k) = false by simp; exact c3, Bool.false_and]) FU k (nI 0, r) (by show k < 100000; omega) ⟨0, r, Nat.zero_le _, rfl, rfl, rw2_rf 11 12 r, fun _ _ => rfl, fun _ _ _ => rfl, fun i hi => absurd hi (Nat.not_lt_zero _), h12⟩
  exact ⟨x, e1, e2⟩
end G
