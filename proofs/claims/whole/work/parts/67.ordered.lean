/-! ORDERS: the one of a number -/
def gS (n w : Nat) (nd : Nat → Nat) (P k : Nat) : Nat := if rdy w nd P k then wy n w nd (P ||| 2 ^ k) else 0
def kS (n w : Nat) (nd : Nat → Nat) (P L : Nat) : Nat := fsN (fun k => decide (L < smN (gS n w nd P) (k + 1))) n
theorem kS_ok {n w P L : Nat} {nd : Nat → Nat} (hw : w < 65536) (hs : sbN P w) (hne : P ≠ w) (hL : L < wy n w nd P) : kS n w nd P L < n ∧ smN (gS n w nd P) (kS n w nd P L) ≤ L ∧ L < smN (gS n w nd P) (kS n w nd P L + 1) ∧ rdy w nd P (kS n w nd P L) = true ∧ ∀ k, k < kS n w nd P L → smN (gS n w nd P) (k + 1) ≤ L := by
  have e : wy n w nd P = smN (gS n w nd P) n := wy_step hw hs hne
  rw [e] at hL
  have h1 : kS n w nd P L < n := by
    rcases Nat.lt_or_ge (kS n w nd P L) n with c | c
    · exact c
    · exfalso
      cases n with
      | zero => exact absurd hL (Nat.not_lt_zero _)
      | succ n =>
        have := fsN_no (fun k => decide (L < smN (gS (n + 1) w nd P) (k + 1))) (n + 1) n (by unfold kS at c; omega)
        have := of_decide_eq_false this
        omega
  have h2 : L < smN (gS n w nd P) (kS n w nd P L + 1) := of_decide_eq_true (fsN_yes _ _ h1)
  have h3 : ∀ k, k < kS n w nd P L → smN (gS n w nd P) (k + 1) ≤ L := fun k hk => by
    have := of_decide_eq_false (fsN_no _ _ k hk)
    omega
  have h4 : smN (gS n w nd P) (kS n w nd P L) ≤ L := by
    cases c : kS n w nd P L with
    | zero => exact Nat.zero_le _
    | succ k => exact h3 k (by omega)
  refine ⟨h1, h4, h2, ?_, h3⟩
  rw [smN_s] at h2
  cases c : rdy w nd P (kS n w nd P L) with
  | true => rfl
  | false =>
    have : gS n w nd P (kS n w nd P L) = 0 := by unfold gS; rw [c, if_neg (by decide)]
    omega
def odS (n w : Nat) (nd : Nat → Nat) (L0 : Nat) : Nat → Nat × Nat
  | 0 => (0, L0)
  | i + 1 => ((odS n w nd L0 i).1 ||| 2 ^ kS n w nd (odS n w nd L0 i).1 (odS n w nd L0 i).2, (odS n w nd L0 i).2 - smN (gS n w nd (odS n w nd L0 i).1) (kS n w nd (odS n w nd L0 i).1 (odS n w nd L0 i).2))
def odK (n w : Nat) (nd : Nat → Nat) (L0 i : Nat) : Nat := kS n w nd (odS n w nd L0 i).1 (odS n w nd L0 i).2
theorem odS_ok {n w L0 : Nat} {nd : Nat → Nat} (hw : w < 65536) (hL : L0 < wy n w nd 0) : ∀ i, i ≤ bts w → sbN (odS n w nd L0 i).1 w ∧ bts (odS n w nd L0 i).1 = i ∧ (odS n w nd L0 i).2 < wy n w nd (odS n w nd L0 i).1
  | 0, _ => ⟨sb_0 w, by show bts 0 = 0; decide, hL⟩
  | i + 1, h => by
    obtain ⟨h1, h2, h3⟩ := odS_ok hw hL i (by omega)
    have hne : (odS n w nd L0 i).1 ≠ w := fun q => by rw [q] at h2; omega
    obtain ⟨k1, k2, k3, k4, k5⟩ := kS_ok hw h1 hne h3
    obtain ⟨r1, r2, r3⟩ := rdy_w k4
    refine ⟨sb_or h1 r1, ?_, ?_⟩
    · show bts ((odS n w nd L0 i).1 ||| 2 ^ _) = i + 1
      rw [bts_or (tb_lt (n := 16) hw r1) r2, h2]
    · show (odS n w nd L0 i).2 - smN _ _ < wy n w nd ((odS n w nd L0 i).1 ||| 2 ^ _)
      rw [smN_s] at k3
      have : gS n w nd (odS n w nd L0 i).1 (kS n w nd (odS n w nd L0 i).1 (odS n w nd L0 i).2) = wy n w nd ((odS n w nd L0 i).1 ||| 2 ^ kS n w nd (odS n w nd L0 i).1 (odS n w nd L0 i).2) := by
        unfold gS; rw [k4, if_pos rfl]
      omega
theorem odS_all {n w L0 : Nat} {nd : Nat → Nat} (hw : w < 65536) (hL : L0 < wy n w nd 0) : (odS n w nd L0 (bts w)).1 = w := by
  obtain ⟨h1, h2, _⟩ := odS_ok hw hL (bts w) (Nat.le_refl _)
  exact bts_eq h1 hw h2
section R
variable {S : RS} {B : Nat → Nat} {w P : Nat}
theorem r_pick_b (hw : wfB B) (hw2 : w < 2 ^ B 0) (hc : lk B w = 0) (hn : ∀ k, k < B 0 → S.2.2.1 9 k = nI (ndR B w none k) ∧ ndR B w none k < 65536) (hW : ∀ P, sbN P w → S.2.2.2 8 P = lN (wy (B 0) w (ndE B none) P)) (hs : sbN P w) (v7 : Int32) {l k : Nat} (hl : l < 2 ^ 45) (hk : k < B 0) : X12_ordered_b78 (nI w) (nI P) v7 (lN l) (nI k) false S = if rdy w (ndE B none) P k = true then (if wy (B 0) w (ndE B none) (P ||| 2 ^ k) ≤ l then some (.inl (lN (l - wy (B 0) w (ndE B none) (P ||| 2 ^ k)), nI (k + 1), false)) else some (.inl (lN l, nI k, true))) else some (.inl (lN l, nI (k + 1), false)) := by
  have h16 := hw.1
  have w6 : w < 65536 := Nat.lt_of_lt_of_le hw2 (Nat.pow_le_pow_right (n := 2) (by decide) h16)
  have P6 : P < 65536 := by have := sb_le hs w6; omega
  have d6 : bdf w P < 65536 := bdf_lt (n := 16) w6
  obtain ⟨n1, n2⟩ := hn k hk
  have n3 : bdf (ndR B w none k) P < 65536 := bdf_lt (n := 16) n2
  have p6 : 2 ^ k < 65536 := p2_lt (n := 16) (by omega)
  have o6 : P ||| 2 ^ k < 65536 := or_lt (n := 16) P6 p6
  have z : lN l - (0 : Int64) = lN l := lN_sub (b := 0) (Nat.zero_le _)
  unfold X12_ordered_b78 X12_ordered_j116 X12_ordered_j117 X12_ordered_j148 X12_ordered_j171 X12_ordered_j177
  rw [if_neg (show ¬ (false = true) by decide), show (-1 : Int32) = m1I from rfl, dfI, hasT (by omega) (by omega), ob_s, nI_clamp (by omega), n1, dfI, bdf_tb, show (0 : Int32) = nI 0 from rfl, ifE (by omega) (by omega), show (1 : Int32) <<< (nI k &&& 31) = nI (2 ^ k) from s1I (by omega), orI, nI_clamp (by omega)]
  unfold rdy
  cases c1 : w.testBit k with
  | false => simp only [Bool.false_and, Bool.false_eq_true, if_false, thn_eq, z, nI_1]
  | true =>
    cases c2 : P.testBit k with
    | true => simp only [Bool.not_true, Bool.true_and, Bool.false_and, Bool.false_eq_true, if_false, thn_eq, z, nI_1]
    | false =>
      have e0 : ndR B w none k = ndE B none k := ndR_E hw2 hc k c1
      rw [e0]
      by_cases c3 : bdf (ndE B none k) P = 0
      · have wl := wy_lt (nd := ndE B none) h16 w6 (sb_or hs c1)
        have c3' : (bdf (ndE B none k) P == 0) = true := by simpa using c3
        rw [c3', if_pos c3, hW _ (sb_or hs c1)]
        simp only [Bool.not_false, Bool.and_self, if_true]
        rw [g_inT (by omega) (by omega), g_inT (by omega) (by omega)]
        by_cases c4 : wy (B 0) w (ndE B none) (P ||| 2 ^ k) ≤ l
        · rw [if_pos ((pk_lLE (by omega) (by omega)).mpr c4), if_pos c4, g_inT (by omega) (by omega), thn_eq, thn_eq, lN_sub c4, nI_1]
        · rw [if_neg (fun q => c4 ((pk_lLE (by omega) (by omega)).mp q)), if_neg c4]
      · have c3' : (bdf (ndE B none k) P == 0) = false := by simpa using c3
        rw [c3', if_neg c3]
        simp only [Bool.not_false, Bool.and_false, Bool.and_self, Bool.false_eq_true, if_false, thn_eq, z, nI_1]
        rw [if_pos trivial, g_inT (by omega) (by omega)]
theorem r_pick (hw : wfB B) (hw2 : w < 2 ^ B 0) (hc : lk B w = 0) (hn : ∀ k, k < B 0 → S.2.2.1 9 k = nI (ndR B w none k) ∧ ndR B w none k < 65536) (hW : ∀ P, sbN P w → S.2.2.2 8 P = lN (wy (B 0) w (ndE B none) P)) (hs : sbN P w) (hne : P ≠ w) (v7 : Int32) {L : Nat} (hL : L < wy (B 0) w (ndE B none) P) : a_loop (fun (q : Int64 × Int32 × Bool) => X12_ordered_b78 (nI w) (nI P) v7 q.1 q.2.1 q.2.2 S) FU (lN L, (0 : Int32), false) = some (lN (L - smN (gS (B 0) w (ndE B none) P) (kS (B 0) w (ndE B none) P L)), nI (kS (B 0) w (ndE B none) P L)) := by
  have h16 := hw.1
  have w6 : w < 65536 := Nat.lt_of_lt_of_le hw2 (Nat.pow_le_pow_right (n := 2) (by decide) h16)
  have wl := wy_lt (nd := ndE B none) h16 w6 hs
  obtain ⟨k1, k2, k3, k4, k5⟩ := kS_ok w6 hs hne hL
  generalize kS (B 0) w (ndE B none) P L = K at *
  obtain ⟨x, g1, g2⟩ := lp_m (body := fun (q : Int64 × Int32 × Bool) => X12_ordered_b78 (nI w) (nI P) v7 q.1 q.2.1 q.2.2 S) (I := fun m q => (∃ k, k ≤ K ∧ m = K + 1 - k ∧ q = (lN (L - smN (gS (B 0) w (ndE B none) P) k), nI k, false)) ∨ (m = 0 ∧ q = (lN (L - smN (gS (B 0) w (ndE B none) P) K), nI K, true))) (P := fun x => x = (lN (L - smN (gS (B 0) w (ndE B none) P) K), nI K)) (fun m q hi => by
    rcases hi with ⟨k, hk, rfl, rfl⟩ | ⟨rfl, rfl⟩
    · left
      have st := r_pick_b hw hw2 hc hn hW hs v7 (l := L - smN (gS (B 0) w (ndE B none) P) k) (k := k) (by omega) (by omega)
      have hg : gS (B 0) w (ndE B none) P k = if rdy w (ndE B none) P k then wy (B 0) w (ndE B none) (P ||| 2 ^ k) else 0 := rfl
      rcases Nat.lt_or_eq_of_le hk with c | c
      · have h5 := k5 k c
        rw [smN_s] at h5
        refine ⟨K + 1 - (k + 1), _, by omega, Or.inl ⟨k + 1, by omega, rfl, rfl⟩, ?_⟩
        show X12_ordered_b78 _ _ _ _ _ _ _ = _
        rw [st, smN_s]
        by_cases r : rdy w (ndE B none) P k = true
        · rw [if_pos r] at hg ⊢
          rw [hg] at h5 ⊢
          rw [if_pos (by omega), Nat.sub_sub]
        · rw [if_neg r] at hg ⊢
          rw [hg]; rfl
      · subst c
        refine ⟨0, _, by omega, Or.inr ⟨rfl, rfl⟩, ?_⟩
        show X12_ordered_b78 _ _ _ _ _ _ _ = _
        rw [smN_s] at k3
        rw [k4, if_pos rfl] at hg
        rw [hg] at k3
        rw [st, k4, if_pos rfl, if_neg (by omega)]
    · right
      refine ⟨_, rfl, ?_⟩
      dsimp only [X12_ordered_b78]
      rw [if_pos rfl]) FU (K + 1) (lN L, nI 0, false) (by show K + 1 < 100000; omega) (Or.inl ⟨0, Nat.zero_le _, rfl, rfl⟩)
  rw [← g2]; exact g1
end R
