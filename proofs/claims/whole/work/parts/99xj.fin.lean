/-! BOOKS: a CHANGE is read, and counts -/
section V
variable {s q q0 r s0 : RS} {b : Nat → Nat} {e T j f st k kd z : Nat} {tb : Nat → Int64} {nm nmI : Nat → Nat} {B Bc : Nat → Nat}
/-- all that a new CHANGE hangs on -/
def hgA (B : Nat → Nat) (k z : Nat) : Nat := z ||| orN (fun j => if z.testBit j then B (98 + j) else 0) k
def finB (B Bc : Nat → Nat) (k z : Nat) : Nat → Nat := upN (upN (upN Bc (82 + k) z) (98 + k) (hgA B k z)) 0 (k + 1)
theorem hgA_lt (hw : wfB B) (h0 : B 0 = k) (hk : k < 16) (hz : z < 2 ^ k) : hgA B k z < 2 ^ k := by
  refine or_lt hz (orN_lt (fun j hj => ?_))
  split
  · have h1 := (hw.2.2 j (by omega)).2.1
    have h2 : 2 ^ j ≤ 2 ^ k := Nat.pow_le_pow_right (by decide) (by omega)
    omega
  · exact Nat.two_pow_pos k
theorem fin_at (hk : k < 16) : finB B Bc k z 0 = k + 1 ∧ finB B Bc k z (82 + k) = z ∧ finB B Bc k z (98 + k) = hgA B k z ∧ ∀ i, i ≠ 0 → i ≠ 82 + k → i ≠ 98 + k → finB B Bc k z i = Bc i := by
  unfold finB
  refine ⟨upN_at _ _ _, ?_, ?_, fun i h1 h2 h3 => ?_⟩
  · rw [upN_ne _ _ (by omega), upN_ne _ _ (by omega), upN_at]
  · rw [upN_ne _ _ (by omega), upN_at]
  · rw [upN_ne _ _ h1, upN_ne _ _ h3, upN_ne _ _ h2]
theorem fin_ag (hk : k < 16) (hg : agB B Bc k) : agB B (finB B Bc k z) k := agB_tr (agB_tr (agB_tr hg (agB_up Bc z hk (by omega))) (agB_up _ (hgA B k z) hk (by omega))) (agB_up _ (k + 1) hk (by omega))
theorem fin_nw (hw : wfB B) (h0 : B 0 = k) (hk : k < 16) (h2 : Bc (2 + k) = kd) (h4 : kd ≤ 4) (hc : chF B Bc r k kd z) : nwB B (finB B Bc k z) k := by
  obtain ⟨a0, a82, a98, an⟩ := fin_at (B := B) (Bc := Bc) (z := z) hk
  obtain ⟨c1, c2, c3, c4, c5, c6, c7, c8⟩ := hc
  unfold nwB
  rw [a82, a98, an (2 + k) (by omega) (by omega) (by omega), an (50 + k) (by omega) (by omega) (by omega), an (66 + k) (by omega) (by omega) (by omega), h2]
  refine ⟨h4, c1, hgA_lt hw h0 hk c1, fun i => ?_, c6, c7, fun q => ⟨(c8 q).1, (c8 q).2.1, (c8 q).2.2.1⟩⟩
  rw [hgA, Nat.testBit_or, orN_tb]
  congr 1
  apply anN_cg
  intro j hj
  cases z.testBit j
  · rw [if_neg Bool.false_ne_true, Nat.zero_testBit, Bool.false_and]
  · rw [if_pos rfl, Bool.true_and]
/-- the class counts it -/
theorem x_fin (hR : bkR B r) (hw : wfB B) (h0 : B 0 = k) (hk : k < 16) (hg : agB B Bc k) (h2 : Bc (2 + k) = kd) (h4 : kd ≤ 4) (hc : chF B Bc r k kd z) (hr4 : r.2.2.1 4 k = nI kd) (hz : ∀ i, k ≤ i → i < 16 → r.2.2.1 11 i = nI 0 ∧ r.2.2.1 12 i = nI 0) (hz9 : ∀ i, k < i → i < 16 → r.2.2.1 9 i = nI 0) : wfB (finB B Bc k z) ∧ ∃ r2, pX0_addChange r = some r2 ∧ bkR (finB B Bc k z) r2 ∧ r2.2.2.2 = r.2.2.2 ∧ ∀ i, k + 1 ≤ i → i < 16 → r2.2.2.1 9 i = nI 0 ∧ r2.2.2.1 11 i = nI 0 ∧ r2.2.2.1 12 i = nI 0 := by
  obtain ⟨a0, a82, a98, an⟩ := fin_at (B := B) (Bc := Bc) (z := z) hk
  have hn := fin_nw hw h0 hk h2 h4 hc
  have hg' := fin_ag (z := z) hk hg
  have hw' := g_wf hw h0 a0 hk hg' hn
  obtain ⟨c1, c2, c3, c4, c5, c6, c7, c8⟩ := hc
  have a2 : finB B Bc k z (2 + k) = kd := by rw [an (2 + k) (by omega) (by omega) (by omega), h2]
  refine ⟨hw', x_addChange hR hw h0 a0 hk hg' hn (by rw [a2]; exact hr4) ?_ (fun q => ?_) ?_ (by rw [a82]; exact c2) (fun q => ?_) hz hz9⟩
  · rw [c3]
    unfold nmB
    rw [an (2 + k) (by omega) (by omega) (by omega), an (34 + k) (by omega) (by omega) (by omega), an (18 + k) (by omega) (by omega) (by omega)]
  · rw [an (34 + k) (by omega) (by omega) (by omega)]
    exact c4 (by omega)
  · rw [c5]
    by_cases d0 : kd = 0
    · rw [if_pos d0, thB_put (by rw [a2]; exact d0)]
    · rw [if_neg d0, thB_of hw' (by omega) (by rw [a2]; exact d0), an (50 + k) (by omega) (by omega) (by omega), g_th hw h0 hg' (c6 d0).1]
  · rw [an (50 + k) (by omega) (by omega) (by omega), an (66 + k) (by omega) (by omega) (by omega)]
    exact ⟨(c8 (by omega)).2.2.2.1, (c8 (by omega)).2.2.2.2⟩
/-- the reference counts it -/
theorem r_fin (h : prR tb b e T j s q) (hx : cxB B Bc nm k s r) (hw : wfB B) (h0 : B 0 = k) (hk : k < 16) (hz : z < 2 ^ k) : ∃ s', (g_in ((1522 : Int32) + nI k) 1800 (thn (uA s 4 (upd (s.2.2.1 4) ((1522 : Int32) + nI k).toNatClampNeg (nI z))) fun s8 => (a_loop (fun (q : Int32 × Int32) => X12_readChange_b102 (nI k) (nI z) q.1 q.2 s8) FU (nI z, (0 : Int32))).bind fun (t12 : Int32) => g_in ((1538 : Int32) + nI k) 1800 (thn (uA s8 4 (upd (s8.2.2.1 4) ((1538 : Int32) + nI k).toNatClampNeg t12)) fun s13 => g_in (1440 : Int32) 1800 (g_in (1440 : Int32) 1800 (thn (uA s13 4 (upd (s13.2.2.1 4) (1440 : Int32).toNatClampNeg ((s13.2.2.1 4 (1440 : Int32).toNatClampNeg) + (1 : Int32)))) fun s14 => some s14))))) = some s' ∧ prR tb b e T j s' q ∧ s'.1 = s.1 ∧ s'.2.2.2 = s.2.2.2 ∧ rsB s s' ∧ blk (s'.2.2.1 4) 1440 (finB B Bc k z) := by
  have p2k : 2 ^ k ≤ 2 ^ 16 := Nat.pow_le_pow_right (by decide) (by omega)
  obtain ⟨hB, hg, hb0, hn, hR⟩ := hx
  have hA := hgA_lt hw h0 hk hz
  rw [show (1522 : Int32) = nI 1522 from rfl, show (1538 : Int32) = nI 1538 from rfl, show (1440 : Int32) = nI 1440 from rfl, nI_add, nI_add, nI_clamp (by omega), nI_clamp (by omega), nI_clamp (by omega), g_inT (by omega) (by omega), thn_eq, show 1522 + k = 1440 + (82 + k) by omega, show 1538 + k = 1440 + (98 + k) by omega]
  have b8 : blk ((uA s 4 (upd (s.2.2.1 4) (1440 + (82 + k)) (nI z))).2.2.1 4) 1440 (upN Bc (82 + k) z) := by rw [uA_at]; exact blk_up hB (by omega)
  have p8 := prR_4 h (upd (s.2.2.1 4) (1440 + (82 + k)) (nI z))
  have r8 : rsB s (uA s 4 (upd (s.2.2.1 4) (1440 + (82 + k)) (nI z))) := rsB_4 (x := 1440 + (82 + k)) _ _ (by omega)
  have i8 : (uA s 4 (upd (s.2.2.1 4) (1440 + (82 + k)) (nI z))).1 = s.1 := rfl
  have w8 : (uA s 4 (upd (s.2.2.1 4) (1440 + (82 + k)) (nI z))).2.2.2 = s.2.2.2 := rfl
  generalize uA s 4 (upd (s.2.2.1 4) (1440 + (82 + k)) (nI z)) = t8 at *
  have hl : a_loop (fun (q : Int32 × Int32) => X12_readChange_b102 (nI k) (nI z) q.1 q.2 t8) FU (nI z, (0 : Int32)) = some (nI (hgA B k z)) := by
    have e0 : (nI z, (0 : Int32)) = (nI (hgA B 0 z), nI 0) := by rw [show hgA B 0 z = z from Nat.or_zero z]; rfl
    rw [e0]
    refine lp_acc (fun i => hgA B i z) k (by omega) (fun i hi => ?_) ?_
    · have es : hgA B (i + 1) z = hgA B i z ||| (if z.testBit i then B (98 + i) else 0) := by
        unfold hgA
        rw [Nat.or_assoc]; rfl
      dsimp only [X12_readChange_b102, X12_readChange_j133]
      rw [if_neg (nI_ge hi (by omega)), shI (by omega) (by omega), show (1 : Int32) = nI 1 from rfl, b1I, ifT1, n_hangsOn b8 (by omega), ob_s]
      simp only [thn_eq]
      rw [nI_add, upN_ne _ _ (by omega), hg.2.2.2.2.2.2.2 i hi, orI, es, show (0 : Int32) = nI 0 from rfl, orI]
      cases z.testBit i
      · rw [if_neg Bool.false_ne_true, if_neg Bool.false_ne_true]
      · rw [if_pos rfl, if_pos rfl]
    · dsimp only [X12_readChange_b102]
      rw [if_pos (nI_le (Nat.le_refl _) (by omega))]
  rw [hl, ob_s, g_inT (by omega) (by omega), thn_eq]
  have b9 : blk ((uA t8 4 (upd (t8.2.2.1 4) (1440 + (98 + k)) (nI (hgA B k z)))).2.2.1 4) 1440 (upN (upN Bc (82 + k) z) (98 + k) (hgA B k z)) := by rw [uA_at]; exact blk_up b8 (by omega)
  have p9 := prR_4 p8 (upd (t8.2.2.1 4) (1440 + (98 + k)) (nI (hgA B k z)))
  have r9 : rsB s (uA t8 4 (upd (t8.2.2.1 4) (1440 + (98 + k)) (nI (hgA B k z)))) := rsB_tr r8 (rsB_4 (x := 1440 + (98 + k)) _ _ (by omega))
  have i9 : (uA t8 4 (upd (t8.2.2.1 4) (1440 + (98 + k)) (nI (hgA B k z)))).1 = s.1 := i8
  have w9 : (uA t8 4 (upd (t8.2.2.1 4) (1440 + (98 + k)) (nI (hgA B k z)))).2.2.2 = s.2.2.2 := w8
  generalize uA t8 4 (upd (t8.2.2.1 4) (1440 + (98 + k)) (nI (hgA B k z))) = t9 at *
  have c0 : t9.2.2.1 4 1440 = nI k := by
    have := b9.1 0 (by omega)
    rw [upN_ne _ _ (by omega), upN_ne _ _ (by omega), hb0] at this; exact this
  rw [c0, nI_1, g_inT (by omega) (by omega), g_inT (by omega) (by omega), thn_eq]
  refine ⟨_, rfl, prR_4 p9 _, i9, w9, rsB_tr r9 (rsB_4 (x := 1440) _ _ (by omega)), ?_⟩
  rw [uA_at]
  exact blk_up (o := 1440) (j := 0) (v := k + 1) b9 (by omega)
end V
