/-! ORDERS: how many swaps to the first one -/
theorem smN_swap {g : Nat → Nat → Nat} : ∀ (m n : Nat), smN (fun i => smN (fun j => g i j) n) m = smN (fun j => smN (fun i => g i j) m) n
  | 0, n => by
    show 0 = smN (fun _ => 0) n
    rw [smN_z]
  | m + 1, n => by
    rw [smN_s, smN_swap m n, ← smN_add]
    exact smN_cg (fun j _ => rfl)
def ivF (O : Nat → Nat) (i k : Nat) : Nat := if O k < O i then 1 else 0
theorem ivF_le (O : Nat → Nat) (i k : Nat) : ivF O i k ≤ 1 := by
  unfold ivF; split <;> omega
theorem smN_cut {f : Nat → Nat} {k : Nat} : ∀ d, smN (fun i => if i < k then f i else 0) (k + d) = smN f k
  | 0 => smN_cg (fun i hi => if_pos hi)
  | d + 1 => by
    rw [show k + (d + 1) = (k + d) + 1 from rfl, smN_s, smN_cut d, if_neg (by omega)]; rfl
theorem iv_eq (O : Nat → Nat) (n : Nat) : smN (fun i => smN (fun j => if i < j then ivF O i j else 0) n) n = smN (fun k => smN (fun i => ivF O i k) k) n := by
  rw [smN_swap]
  apply smN_cg
  intro k hk
  have := smN_cut (f := fun i => ivF O i k) (k := k) (n - k)
  rwa [show k + (n - k) = n by omega] at this
def rkN (w x : Nat) : Nat := bts (mkN (fun i => w.testBit i) x)
theorem pf_mono {w a b : Nat} (h : a ≤ b) : sbN (mkN (fun i => w.testBit i) a) (mkN (fun i => w.testBit i) b) := fun i hi => by
  rw [mkN_tb] at hi ⊢
  obtain ⟨h1, h2⟩ := Bool.and_eq_true_iff.mp hi
  have := of_decide_eq_true h1
  rw [h2, decide_eq_true (by omega)]; rfl
theorem rk_lt {w a b : Nat} (ha : a < 16) (h : a < b) (hw : w.testBit a = true) : rkN w a < rkN w b := by
  refine bts_lt (pf_mono (by omega)) ha ?_ ?_
  · rw [mkN_tb, decide_eq_true h, hw]; rfl
  · rw [mkN_tb, decide_eq_false (Nat.lt_irrefl _)]; rfl
section Q
variable {s r : RS} {B : Nat → Nat} {s0 s1 : RS} {n : Nat} {O : Nat → Nat}
theorem x_turned (hO : orW B n O) (hw : wfB B) (ho1 : orC s1 n O) : pX7_countTurned s1 = some (nI (smN (fun k => smN (fun i => ivF O i k) k) n)) := by
  have h16 := hw.1
  have n16 := hO.1
  unfold pX7_countTurned
  refine bd (lp_acc (fun k => smN (fun k => smN (fun i => ivF O i k) k) k) n (by omega) (fun k hk => ?_) ?_) rfl
  · dsimp only [X7_countTurned_b4]
    have inner : ∀ acc, a_loop (fun (q : Int32 × Int32) => X7_countTurned_b14 (nI k) q.1 q.2 s1) FU (nI acc, (0 : Int32)) = some (nI (acc + smN (fun i => ivF O i k) k)) := by
      intro acc
      refine lp_acc (fun j => acc + smN (fun i => ivF O i k) j) k (by omega) (fun j hj => ?_) ?_
      · dsimp only [X7_countTurned_b14, X7_countTurned_j37]
        have a1 := (hO.2 j (by omega)).1
        have a2 := (hO.2 k hk).1
        rw [if_neg (nI_ge hj (by omega)), g_inT (by omega) (by omega), g_inT (by omega) (by omega), nI_clamp (by omega), nI_clamp (by omega), ho1.2 j (by omega), ho1.2 k hk, ifLe (by omega) (by omega), smN_s]
        simp only [thn_eq, nI_1]
        unfold ivF
        by_cases c : O j ≤ O k
        · rw [if_pos c, if_neg (by omega)]; rfl
        · rw [if_neg c, if_pos (by omega), Nat.add_assoc]
      · dsimp only [X7_countTurned_b14]
        rw [if_pos (nI_le (Nat.le_refl _) (by omega))]
    rw [ho1.1, if_neg (nI_ge hk (by omega)), inner, ob_s, thn_eq, nI_1, smN_s]
  · dsimp only [X7_countTurned_b4]
    rw [ho1.1, if_pos (nI_le (Nat.le_refl _) (by omega))]
theorem r_first {S : RS} {w : Nat} (hB : blk (S.2.2.1 4) 0 B) (hw : wfB B) (hw2 : w < 2 ^ B 0) (hc : lk B w = 0) : ∃ S', a_loop (fun (q : Int32 × Int32 × RS) => X12_swaps_b19 (nI w) q.1 q.2.1 q.2.2) FU ((0 : Int32), (0 : Int32), S) = some S' ∧ sx 16 S S' ∧ ∀ x, w.testBit x = true → S'.2.2.1 16 x = nI (rkN w x) := by
  have h16 := hw.1
  have p16 : 2 ^ B 0 ≤ 2 ^ 16 := Nat.pow_le_pow_right (by decide) h16
  have w6 : w < 65536 := by omega
  obtain ⟨x, g1, g2⟩ := lp_m (body := fun (q : Int32 × Int32 × RS) => X12_swaps_b19 (nI w) q.1 q.2.1 q.2.2) (I := fun m q => ∃ j S', j ≤ B 0 ∧ m = B 0 - j ∧ q = (nI (mkN (fun i => w.testBit i) j), nI (rkN w j), S') ∧ sx 16 S S' ∧ ∀ x, x < j → w.testBit x = true → S'.2.2.1 16 x = nI (rkN w x)) (P := fun S' => sx 16 S S' ∧ ∀ x, w.testBit x = true → S'.2.2.1 16 x = nI (rkN w x)) (fun m q hi => by
    obtain ⟨j, S', hj, rfl, rfl, hs, hf⟩ := hi
    have P6 : mkN (fun i => w.testBit i) j < 65536 := mkN_lt' (m := 16) (by omega)
    dsimp only [X12_swaps_b19]
    rw [ifE (by omega) (by omega)]
    by_cases c : mkN (fun i => w.testBit i) j = w
    · right
      refine ⟨S', ⟨hs, fun x hx => hf x ?_ hx⟩, by rw [if_pos c]⟩
      rw [← c, mkN_tb] at hx
      exact of_decide_eq_true (Bool.and_eq_true_iff.mp hx).1
    · left
      have hB' : blk (S'.2.2.1 4) 0 B := by rw [hs.2.2.2 4 (by decide)]; exact hB
      -- the next one
      have hK : fsN (fun k => decide (j ≤ k) && w.testBit k) (B 0) < B 0 := by
        rcases Nat.lt_or_ge (fsN (fun k => decide (j ≤ k) && w.testBit k) (B 0)) (B 0) with q | q
        · exact q
        · exfalso; apply c
          apply Nat.eq_of_testBit_eq
          intro i
          rw [mkN_tb]
          cases e : w.testBit i with
          | false => simp
          | true =>
            have hi := tb_lt hw2 e
            have := fsN_no (fun k => decide (j ≤ k) && w.testBit k) (B 0) i (by omega)
            rw [e, Bool.and_true] at this
            have := of_decide_eq_false this
            rw [decide_eq_true (by omega)]; rfl
      have hy := fsN_yes _ _ hK
      have hno := fsN_no (fun k => decide (j ≤ k) && w.testBit k) (B 0)
      generalize fsN (fun k => decide (j ≤ k) && w.testBit k) (B 0) = K at *
      obtain ⟨y1, y2⟩ := Bool.and_eq_true_iff.mp hy
      have y1 := of_decide_eq_true y1
      have eK : mkN (fun i => w.testBit i) K = mkN (fun i => w.testBit i) j := by
        apply Nat.eq_of_testBit_eq
        intro i
        rw [mkN_tb, mkN_tb]
        by_cases q : i < j
        · rw [decide_eq_true q, decide_eq_true (by omega)]
        · rw [decide_eq_false q]
          by_cases q2 : i < K
          · have := hno i q2
            rw [decide_eq_true (by omega), Bool.true_and] at this
            rw [this]; simp
          · rw [decide_eq_false q2]
      have d6 : bdf w (mkN (fun i => w.testBit i) j) < 65536 := bdf_lt (n := 16) w6
      have inner : a_loop (fun (q : Int32) => X12_swaps_b27 (nI w) (nI (mkN (fun i => w.testBit i) j)) (nI (rkN w j)) q S') FU (0 : Int32) = some (nI K) := by
        refine lp_f (fun k => nI k) K (by omega) (fun k hk => ?_) ?_
        · dsimp only [X12_swaps_b27, X12_swaps_j54]
          have : (bdf w (mkN (fun i => w.testBit i) j)).testBit k = false := by
            rw [bdf_tb, mkN_tb]
            by_cases q : k < j
            · rw [decide_eq_true q]; cases w.testBit k <;> rfl
            · have := hno k hk
              rw [decide_eq_true (by omega), Bool.true_and] at this
              rw [this]; rfl
          rw [show (-1 : Int32) = m1I from rfl, dfI, hasT (by omega) (by omega), this, ob_s, if_neg (by decide), thn_eq, nI_1]
        · dsimp only [X12_swaps_b27]
          have t1 : (bdf w (mkN (fun i => w.testBit i) j)).testBit K = true := by
            rw [bdf_tb, mkN_tb, y2, decide_eq_false (by omega)]; rfl
          have v := (wfB_v hw hK).1
          have t2 : bdf (B (98 + K)) (mkN (fun i => w.testBit i) j) = 0 := by
            rw [← eK]
            refine bdf_sub.mpr (fun i hi => ?_)
            rw [mkN_tb, decide_eq_true (tb_lt (hw.2.2 K hK).2.1 hi), lk_iff.mp hc K hK y2 i hi]; rfl
          rw [show (-1 : Int32) = m1I from rfl, dfI, hasT (by omega) (by omega), t1, ob_s, if_pos rfl, r_hangsOn hB' (by omega), ob_s, dfI, t2, if_pos (show nI 0 = 0 from rfl)]
      have eN : mkN (fun i => w.testBit i) (K + 1) = mkN (fun i => w.testBit i) j ||| 2 ^ K := by
        rw [mkN_s, eK, y2, if_pos rfl]
      have eR : rkN w (K + 1) = rkN w j + 1 := by
        unfold rkN
        rw [eN, bts_or (by omega)]
        rw [← eK, mkN_tb, decide_eq_false (Nat.lt_irrefl _)]; rfl
      have eQ : rkN w K = rkN w j := by unfold rkN; rw [eK]
      refine ⟨B 0 - (K + 1), (nI (mkN (fun i => w.testBit i) (K + 1)), nI (rkN w (K + 1)), uA S' 16 (upd (S'.2.2.1 16) K (nI (rkN w j)))), by omega, ⟨K + 1, _, by omega, rfl, rfl, sx_tr hs (sx_uA _ _ _), fun x hx hb => ?_⟩, ?_⟩
      · rw [uA_at]
        by_cases e : x = K
        · rw [e, upd_at, eQ]
        · rw [upd_ne _ _ e]
          by_cases q : x < j
          · exact hf x q hb
          · have := hno x (by omega)
            rw [decide_eq_true (by omega), Bool.true_and, hb] at this; cases this
      · rw [if_neg c, inner, ob_s, g_inT (by omega) (by omega), nI_clamp (by omega), thn_eq, thn_eq, thn_eq, nI_1, show (1 : Int32) <<< (nI K &&& 31) = nI (2 ^ K) from s1I (by omega), orI, eN, eR]) FU (B 0) (nI 0, nI 0, S) (by show B 0 < 100000; omega) ⟨0, S, Nat.zero_le _, rfl, by
    have : rkN w 0 = 0 := (by show bts 0 = 0; decide)
    rw [this]; rfl, sx_rf _ _, fun x h => absurd h (Nat.not_lt_zero _)⟩
  exact ⟨x, g1, g2⟩
theorem q_swaps (hB : blk (s.2.2.1 4) 0 B) (hw : wfB B) (hO : orW B n O) (ho : orR (s.2.2.1 4) n O) (ho1 : orC s1 n O) : qq s s0 (pX12_swaps s) (pX11_swaps s0 s1) := by
  have h16 := hw.1
  have n16 := hO.1
  have w2 := opf_lt hO n (Nat.le_refl _)
  have cl := opf_lk hO n (Nat.le_refl _)
  obtain ⟨S', g1, g2, g3⟩ := r_first (S := uI (uI s 1 0) 0 0) hB hw w2 cl
  have rs : rsame s S' := rs_sx (rq_2 _ _ _) g2 (by decide)
  have ho2 : orR (S'.2.2.1 4) n O := by rw [rs.2.2.1.2.2.2.1]; exact ho
  have hb : S'.2.2.1 4 (118 : Int32).toNatClampNeg = nI n := ho2.1
  have inW : ∀ k, k < n → (opf O n).testBit (O k) = true := fun k hk => by
    rw [opf_tb]; exact anN_iff.mpr ⟨k, hk, decide_eq_true rfl⟩
  have rk16 : ∀ x, rkN (opf O n) x ≤ 16 := fun x => bts_le _
  have inner : ∀ i acc, i < n → a_loop (fun (q : Int32 × Int32) => X12_swaps_b105 (nI i) q.1 q.2 S') FU (nI acc, nI (i + 1)) = some (nI (acc + smN (fun j => if i < j then ivF O i j else 0) n)) := by
    intro i acc hi
    have z : smN (fun j => if i < j then ivF O i j else 0) (i + 1) = 0 := by
      rw [smN_cg (q := fun _ => 0) (fun j hj => if_neg (by omega)), smN_z]
    have lp := lp_fi (body := fun (q : Int32 × Int32) => X12_swaps_b105 (nI i) q.1 q.2 S') (fun j => (nI (acc + smN (fun j => if i < j then ivF O i j else 0) j), nI j)) (x := nI (acc + smN (fun j => if i < j then ivF O i j else 0) n)) (i + 1) n (by omega) (fun j hj1 hj => ?_) (by omega) ?_
    · rw [z] at lp; exact lp
    · dsimp only [X12_swaps_b105, X12_swaps_j157]
      have a1 := (hO.2 i hi).1
      have a2 := (hO.2 j hj).1
      have r1 := rk16 (O i)
      have r2 := rk16 (O j)
      have ne := orW_inj hO (show i < j by omega) hj
      rw [g118, hb, if_neg (nI_ge hj (by omega)), show (119 : Int32) = nI 119 from rfl, nI_add, nI_add, g_inT (by omega) (by omega), nI_clamp (by omega), nI_clamp (by omega), ho2.2 i hi, ho2.2 j hj, g_inT (by omega) (by omega), g_inT (by omega) (by omega), g_inT (by omega) (by omega), nI_clamp (by omega), nI_clamp (by omega), g3 _ (inW i hi), g3 _ (inW j hj), ifLe (by omega) (by omega), smN_s, if_pos (by omega : i < j)]
      simp only [thn_eq, nI_1]
      unfold ivF
      by_cases c : O j < O i
      · have := rk_lt (by omega) c (inW j hj)
        rw [if_neg (by omega), if_pos c, b2i_t, nI_add, Nat.add_assoc]
      · have := rk_lt (by omega) (show O i < O j by omega) (inW i hi)
        rw [if_pos (by omega), if_neg c, b2i_f, nI_add]; rfl
    · dsimp only [X12_swaps_b105]
      rw [g118, hb, if_pos (nI_le (Nat.le_refl _) (by omega))]
  have outer : a_loop (fun (q : Int32 × Int32) => X12_swaps_b87 q.1 q.2 S') FU ((0 : Int32), (0 : Int32)) = some (nI (smN (fun i => smN (fun j => if i < j then ivF O i j else 0) n) n)) := by
    refine lp_acc (fun k => smN (fun i => smN (fun j => if i < j then ivF O i j else 0) n) k) n (by omega) (fun k hk => ?_) ?_
    · dsimp only [X12_swaps_b87]
      rw [g118, hb, if_neg (nI_ge hk (by omega)), nI_1, thn_eq, inner k _ hk, ob_s, thn_eq, smN_s]
    · dsimp only [X12_swaps_b87]
      rw [g118, hb, if_pos (nI_le (Nat.le_refl _) (by omega))]
  rw [iv_eq] at outer
  unfold pX12_swaps pX11_swaps
  simp only [thn_eq]
  rw [r_orderSet (s := uI (uI s 1 0) 0 0) ho hw hO, ob_s, g1, ob_s, outer, ob_s, x_turned hO hw ho1, ob_s]
  refine ⟨_, S', rfl, rs, ?_⟩
  rw [g2.1]; rfl
end Q
