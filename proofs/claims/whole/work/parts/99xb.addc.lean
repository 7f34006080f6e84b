/-! BOOKS: one CHANGE more, the class's Book -/
theorem bkR_cg {B : Nat → Nat} {r r' : RS} (h1 : r'.1 = r.1) (h2 : ∀ n i, i < B 0 → r'.2.2.1 n i = r.2.2.1 n i) (h : bkR B r) : bkR B r' := by
  refine ⟨by rw [h1]; exact h.1, by rw [h1]; exact h.2.1, by rw [h1]; exact h.2.2.1, fun k hk => ?_⟩
  rw [h2 4 k hk, h2 5 k hk, h2 6 k hk, h2 7 k hk, h2 8 k hk, h2 9 k hk, h2 10 k hk, h2 11 k hk, h2 12 k hk, h2 13 k hk, h2 14 k hk]
  exact h.2.2.2 k hk
section G
variable {B B' : Nat → Nat} {k : Nat} {r : RS}
theorem g_nm (hg : agB B B' k) {i : Nat} (hi : i < k) : nmB B' i = nmB B i := by
  unfold nmB
  rw [hg.2.1 i hi, hg.2.2.1 i hi, hg.2.2.2.1 i hi]
theorem x_addChange (hR : bkR B r) (hw : wfB B) (h0 : B 0 = k) (h0' : B' 0 = k + 1) (hk : k < 16) (hg : agB B B' k) (hn : nwB B B' k) (h4 : r.2.2.1 4 k = nI (B' (2 + k))) (h5 : r.2.2.1 5 k = nmB B' k) (h6 : B' (2 + k) = 0 → r.2.2.1 6 k = nI (B' (34 + k))) (h7 : r.2.2.1 7 k = nI (thB B' k)) (h9 : r.2.2.1 9 k = nI (B' (82 + k))) (h13 : B' (2 + k) = 4 → r.2.2.1 13 k = nI (B' (50 + k)) ∧ r.2.2.1 14 k = nI (B' (66 + k))) (hz : ∀ i, k ≤ i → i < 16 → r.2.2.1 11 i = nI 0 ∧ r.2.2.1 12 i = nI 0) (hz9 : ∀ i, k < i → i < 16 → r.2.2.1 9 i = nI 0) : ∃ r2, pX0_addChange r = some r2 ∧ bkR B' r2 ∧ r2.2.2.2 = r.2.2.2 ∧ ∀ i, k + 1 ≤ i → i < 16 → r2.2.2.1 9 i = nI 0 ∧ r2.2.2.1 11 i = nI 0 ∧ r2.2.2.1 12 i = nI 0 := by
  have hw' := g_wf hw h0 h0' hk hg hn
  have ht := (thB_lt hw' (show k < B' 0 by omega)).1
  have p : 2 ^ k ≤ 2 ^ 16 := Nat.pow_le_pow_right (by decide) (by omega)
  have hk1 : r.1 1 = nI k := by rw [hR.2.1, h0]
  unfold pX0_addChange
  rw [hk1, thn_eq, if_pos (show nI k < (16 : Int32) from nI_lt (b := 16) hk (by omega))]
  simp (disch := omega) only [g_inT, nI_clamp, thn_eq]
  rw [h9, show (0 : Int32) = nI 0 from rfl]
  have u1 : (uA (uA r 10 (upd (r.2.2.1 10) k (nI (B' (82 + k))))) 8 (upd ((uA r 10 (upd (r.2.2.1 10) k (nI (B' (82 + k))))).2.2.1 8) k (nI 0))).1 = r.1 := rfl
  have u4 : (uA (uA r 10 (upd (r.2.2.1 10) k (nI (B' (82 + k))))) 8 (upd ((uA r 10 (upd (r.2.2.1 10) k (nI (B' (82 + k))))).2.2.1 8) k (nI 0))).2.2.2 = r.2.2.2 := rfl
  have u2 : ∀ n i, i ≠ k → (uA (uA r 10 (upd (r.2.2.1 10) k (nI (B' (82 + k))))) 8 (upd ((uA r 10 (upd (r.2.2.1 10) k (nI (B' (82 + k))))).2.2.1 8) k (nI 0))).2.2.1 n i = r.2.2.1 n i := fun n i hi => by
    by_cases c8 : n = 8
    · rw [c8, uA_at, upd_ne _ _ hi, uA_ne _ _ (by decide)]
    · rw [uA_ne _ _ c8]
      by_cases c10 : n = 10
      · rw [c10, uA_at, upd_ne _ _ hi]
      · rw [uA_ne _ _ c10]
  have u3 : ∀ n, n ≠ 8 → n ≠ 10 → (uA (uA r 10 (upd (r.2.2.1 10) k (nI (B' (82 + k))))) 8 (upd ((uA r 10 (upd (r.2.2.1 10) k (nI (B' (82 + k))))).2.2.1 8) k (nI 0))).2.2.1 n = r.2.2.1 n := fun n c8 c10 => by rw [uA_ne _ _ c8, uA_ne _ _ c10]
  have u8 : (uA (uA r 10 (upd (r.2.2.1 10) k (nI (B' (82 + k))))) 8 (upd ((uA r 10 (upd (r.2.2.1 10) k (nI (B' (82 + k))))).2.2.1 8) k (nI 0))).2.2.1 8 k = nI 0 := by rw [uA_at, upd_at]
  have u10 : (uA (uA r 10 (upd (r.2.2.1 10) k (nI (B' (82 + k))))) 8 (upd ((uA r 10 (upd (r.2.2.1 10) k (nI (B' (82 + k))))).2.2.1 8) k (nI 0))).2.2.1 10 k = nI (B' (82 + k)) := by rw [uA_ne _ _ (by decide), uA_at, upd_at]
  generalize uA (uA r 10 (upd (r.2.2.1 10) k (nI (B' (82 + k))))) 8 (upd ((uA r 10 (upd (r.2.2.1 10) k (nI (B' (82 + k))))).2.2.1 8) k (nI 0)) = r3 at *
  have hR3 : bkR B r3 := bkR_cg u1 (fun n i hi => u2 n i (by omega)) hR
  obtain ⟨r4, a1, a2, a3, a4, a5⟩ := x_add1 hR3 hw h0 hk hn (by rw [u3 9 (by decide) (by decide)]; exact h9) u10 u8
  have hR4 : ∀ i, i < k → r4.2.2.1 4 i = nI (B (2 + i)) ∧ r4.2.2.1 7 i = nI (thB B i) ∧ r4.2.2.1 11 i = nI (hgr B i) ∧ r4.2.2.1 12 i = nI (foe B i) := fun i hi => by
    have b := hR3.2.2.2 i (by omega)
    rw [a2.2.2.2 4 (by decide) (by decide), a2.2.2.2 7 (by decide) (by decide), a2.2.2.2 11 (by decide) (by decide), a2.2.2.2 12 (by decide) (by decide)]
    exact ⟨b.1, b.2.2.2.1, b.2.2.2.2.2.2.2.1, b.2.2.2.2.2.2.2.2.1⟩
  obtain ⟨r5, c1, c2, c3, c4, c5, c6⟩ := x_add2 (B' := B') hR4 hw h0 hk hn.1 hn.2.2.1 ht (by rw [a2.2.2.2 4 (by decide) (by decide), u3 4 (by decide) (by decide)]; exact h4) (by rw [a2.2.2.2 7 (by decide) (by decide), u3 7 (by decide) (by decide)]; exact h7) a4 (by rw [a2.2.2.2 12 (by decide) (by decide), u3 12 (by decide) (by decide)]; exact (hz k (Nat.le_refl _) hk).2)
  rw [a1, ob_s, c1, ob_s]
  have w : ∀ n, n ≠ 8 → n ≠ 10 → n ≠ 11 → n ≠ 12 → r5.2.2.1 n = r.2.2.1 n := fun n n8 n10 n11 n12 => by rw [c2.2.2.2 n n11 n12, a2.2.2.2 n n10 n8, u3 n n8 n10]
  have hf : ∀ r6 : RS, (∀ j, j ≠ 1 → j ≠ 15 → r6.1 j = r5.1 j) → r6.1 1 = nI (k + 1) → r6.1 15 = nI (mkN (fun k => B' (2 + k) == 4) (k + 1)) → r6.2.2.1 = r5.2.2.1 → r6.2.2.2 = r5.2.2.2 → bkR B' r6 ∧ r6.2.2.2 = r.2.2.2 ∧ ∀ i, k + 1 ≤ i → i < 16 → r6.2.2.1 9 i = nI 0 ∧ r6.2.2.1 11 i = nI 0 ∧ r6.2.2.1 12 i = nI 0 := fun r6 j1 j2 j3 j4 j5 => by
    refine ⟨⟨?_, by rw [j2, h0'], by rw [j3, h0'], fun i hi => ?_⟩, ?_, fun i hi hi2 => ⟨?_, ?_, ?_⟩⟩
    · rw [j1 0 (by decide) (by decide), c2.1, a2.1, u1, hR.1, hg.1]
    · rw [j4, w 4 (by decide) (by decide) (by decide) (by decide), w 5 (by decide) (by decide) (by decide) (by decide), w 6 (by decide) (by decide) (by decide) (by decide), w 7 (by decide) (by decide) (by decide) (by decide), w 9 (by decide) (by decide) (by decide) (by decide), w 13 (by decide) (by decide) (by decide) (by decide), w 14 (by decide) (by decide) (by decide) (by decide), c2.2.2.2 8 (by decide) (by decide), c2.2.2.2 10 (by decide) (by decide)]
      by_cases ck : i = k
      · subst ck
        refine ⟨h4, h5, h6, h7, ?_, h9, a4, ?_, ?_, h13⟩
        · rw [a5, g_lvk hg]; rfl
        · rw [c3 i (Nat.le_refl _), a2.2.2.2 11 (by decide) (by decide), u3 11 (by decide) (by decide), (hz i (Nat.le_refl _) hk).1, g_hgr_k hw h0 h0' hg hn.2.2.1]
        · rw [c6, g_foe_k hw h0 h0' hg]
      · have hik : i < k := by omega
        have b := hR.2.2.2 i (by omega)
        rw [(a3 i ck).1, (a3 i ck).2, u2 10 i ck, u2 8 i ck, (c5 i hik).1, (c5 i hik).2, g_nm hg hik, g_th hw h0 hg hik, g_hgr h0 h0' hg i, g_foe hw h0 h0' hg hik, hg.2.1 i hik, hg.2.2.2.1 i hik, hg.2.2.2.2.1 i hik, hg.2.2.2.2.2.1 i hik, hg.2.2.2.2.2.2.1 i hik, hg.2.2.2.2.2.2.2 i hik]
        refine ⟨b.1, b.2.1, b.2.2.1, b.2.2.2.1, ?_, b.2.2.2.2.2.1, b.2.2.2.2.2.2.1, rfl, rfl, b.2.2.2.2.2.2.2.2.2⟩
        rw [b.2.2.2.2.1]
        unfold lvB
        rw [g_lv hg (i + 1) i hik]
    · rw [j5, c2.2.2.1, a2.2.2.1, u4]
    · rw [j4, w 9 (by decide) (by decide) (by decide) (by decide)]; exact hz9 i (by omega) hi2
    · rw [j4, c3 i (by omega), a2.2.2.2 11 (by decide) (by decide), u3 11 (by decide) (by decide)]; exact (hz i (by omega) hi2).1
    · rw [j4, c4 i (by omega), a2.2.2.2 12 (by decide) (by decide), u3 12 (by decide) (by decide)]; exact (hz i (by omega) hi2).2
  have h15 : r5.1 15 = nI (mkN (fun k => B' (2 + k) == 4) k) := by
    rw [c2.1, a2.1, u1, hR.2.2.1, h0]
    congr 1
    apply mkN_cg
    intro j hj
    rw [hg.2.1 j hj]
  rw [w 4 (by decide) (by decide) (by decide) (by decide), h4, show (4 : Int32) = nI 4 from rfl, ifE (by have := hn.1; omega) (by omega)]
  unfold X0_addChange_j215
  simp only [thn_eq]
  rw [nI_1]
  by_cases c44 : B' (2 + k) = 4
  · rw [if_pos c44, h15, show (1 : Int32) = nI 1 from rfl, show (31 : Int32) = nI 31 from rfl, s1I (by omega), orI]
    refine ⟨_, rfl, hf _ (fun j q1 q15 => (if_neg q1).trans (if_neg q15)) rfl ?_ rfl rfl⟩
    show nI (mkN (fun k => B' (2 + k) == 4) k ||| 2 ^ k) = _
    rw [mkN_k, show (B' (2 + k) == 4) = true by simp [c44], if_pos rfl]
  · rw [if_neg c44]
    refine ⟨_, rfl, hf _ (fun j q1 q15 => if_neg q1) rfl ?_ rfl rfl⟩
    show r5.1 15 = _
    rw [h15, mkN_k, show (B' (2 + k) == 4) = false by simp [c44], if_neg Bool.false_ne_true, Nat.or_zero]
end G
