/-! ORDERS: the one of a number, written down -/
def opf (O : Nat → Nat) : Nat → Nat
  | 0 => 0
  | i + 1 => opf O i ||| 2 ^ O i
def orR (c : Nat → Int32) (n : Nat) (O : Nat → Nat) : Prop := c 118 = nI n ∧ ∀ k, k < n → c (119 + k) = nI (O k)
def orC (s1 : RS) (n : Nat) (O : Nat → Nat) : Prop := s1.1 4 = nI n ∧ ∀ k, k < n → s1.2.2.1 3 k = nI (O k)
def orW (B : Nat → Nat) (n : Nat) (O : Nat → Nat) : Prop := n ≤ 16 ∧ ∀ k, k < n → O k < B 0 ∧ (opf O k).testBit (O k) = false ∧ bdf (B (98 + O k)) (opf O k) = 0
/-- the same but for the numbers c -/
def rs4 (s s' : RS) : Prop := (s'.1 8 = s.1 8 ∧ s'.1 10 = s.1 10 ∧ s'.1 11 = s.1 11 ∧ s'.1 22 = s.1 22 ∧ s'.1 43 = s.1 43) ∧ (s'.2.1 2 = s.2.1 2 ∧ s'.2.1 3 = s.2.1 3) ∧ (s'.2.2.1 0 = s.2.2.1 0 ∧ s'.2.2.1 1 = s.2.2.1 1 ∧ s'.2.2.1 3 = s.2.2.1 3 ∧ s'.2.2.1 14 = s.2.2.1 14) ∧ s'.2.2.2 2 = s.2.2.2 2 ∧ s'.2.2.2 5 = s.2.2.2 5
theorem rs4_of {s s' : RS} (h : rsame s s') : rs4 s s' := ⟨h.1, h.2.1, ⟨h.2.2.1.1, h.2.2.1.2.1, h.2.2.1.2.2.1, h.2.2.1.2.2.2.2⟩, h.2.2.2.1, h.2.2.2.2⟩
theorem rs4_sx {s s' s2 : RS} (h : rs4 s s') (hx : sx 4 s' s2) : rs4 s s2 :=
  ⟨by rw [hx.1]; exact h.1, by rw [hx.2.1]; exact h.2.1, ⟨(hx.2.2.2 0 (by decide)).trans h.2.2.1.1, (hx.2.2.2 1 (by decide)).trans h.2.2.1.2.1, (hx.2.2.2 3 (by decide)).trans h.2.2.1.2.2.1, (hx.2.2.2 14 (by decide)).trans h.2.2.1.2.2.2⟩, by rw [hx.2.2.1]; exact h.2.2.2.1, by rw [hx.2.2.1]; exact h.2.2.2.2⟩
/-- the ORDER stays, or is another one -/
def oCh (B : Nat → Nat) (s s' s1 s1' : RS) : Prop := (rsame s s' ∧ s1' = s1) ∨ (rs4 s s' ∧ (∀ j, (j < 118 ∨ 135 ≤ j) → s'.2.2.1 4 j = s.2.2.1 4 j) ∧ s1'.2.2.1 2 = s1.2.2.1 2 ∧ ∃ n O, orR (s'.2.2.1 4) n O ∧ orC s1' n O ∧ orW B n O)
theorem odS_opf {n w L0 : Nat} {nd : Nat → Nat} : ∀ i, opf (odK n w nd L0) i = (odS n w nd L0 i).1
  | 0 => rfl
  | i + 1 => by
    show opf _ i ||| 2 ^ odK n w nd L0 i = _
    rw [odS_opf i]; rfl
theorem od_orW {B : Nat → Nat} (hw : wfB B) {w L0 : Nat} (hw2 : w < 2 ^ B 0) (hL : L0 < wy (B 0) w (ndE B none) 0) : orW B (bts w) (odK (B 0) w (ndE B none) L0) := by
  have h16 := hw.1
  have w6 : w < 65536 := Nat.lt_of_lt_of_le hw2 (Nat.pow_le_pow_right (n := 2) (by decide) h16)
  refine ⟨bts_le w, fun k hk => ?_⟩
  obtain ⟨h1, h2, h3⟩ := odS_ok w6 hL k (by omega)
  have hne : (odS (B 0) w (ndE B none) L0 k).1 ≠ w := fun q => by rw [q] at h2; omega
  obtain ⟨k1, k2, k3, k4, k5⟩ := kS_ok w6 h1 hne h3
  obtain ⟨r1, r2, r3⟩ := rdy_w k4
  rw [odS_opf]
  refine ⟨k1, r2, ?_⟩
  have e0 : ndE B none (odK (B 0) w (ndE B none) L0 k) = B (98 + odK (B 0) w (ndE B none) L0 k) := Nat.or_zero _
  rw [← e0]; exact r3
section R
variable {S : RS} {B : Nat → Nat} {w : Nat}
theorem r_writes (hw : wfB B) (hw2 : w < 2 ^ B 0) (hc : lk B w = 0) (hn : ∀ k, k < B 0 → S.2.2.1 9 k = nI (ndR B w none k) ∧ ndR B w none k < 65536) (hW : ∀ P, sbN P w → S.2.2.2 8 P = lN (wy (B 0) w (ndE B none) P)) {L0 : Nat} (hL : L0 < wy (B 0) w (ndE B none) 0) : ∃ S', a_loop (fun (q : Int64 × Int32 × Int32 × RS) => X12_ordered_b66 (nI w) q.1 q.2.1 q.2.2.1 q.2.2.2) FU (lN L0, (0 : Int32), (0 : Int32), S) = some (nI (bts w), S') ∧ sx 4 S S' ∧ ∀ j, S'.2.2.1 4 j = if 119 ≤ j ∧ j < 119 + bts w then nI (odK (B 0) w (ndE B none) L0 (j - 119)) else S.2.2.1 4 j := by
  have h16 := hw.1
  have w6 : w < 65536 := Nat.lt_of_lt_of_le hw2 (Nat.pow_le_pow_right (n := 2) (by decide) h16)
  have b16 := bts_le w
  obtain ⟨x, g1, S', g2, g3, g4⟩ := lp_m (body := fun (q : Int64 × Int32 × Int32 × RS) => X12_ordered_b66 (nI w) q.1 q.2.1 q.2.2.1 q.2.2.2) (I := fun m q => ∃ i S', i ≤ bts w ∧ m = bts w - i ∧ q = (lN (odS (B 0) w (ndE B none) L0 i).2, nI (odS (B 0) w (ndE B none) L0 i).1, nI i, S') ∧ sx 4 S S' ∧ ∀ j, S'.2.2.1 4 j = if 119 ≤ j ∧ j < 119 + i then nI (odK (B 0) w (ndE B none) L0 (j - 119)) else S.2.2.1 4 j) (P := fun x => ∃ S', x = (nI (bts w), S') ∧ sx 4 S S' ∧ ∀ j, S'.2.2.1 4 j = if 119 ≤ j ∧ j < 119 + bts w then nI (odK (B 0) w (ndE B none) L0 (j - 119)) else S.2.2.1 4 j) (fun m q hi => by
    obtain ⟨i, S', hi, rfl, rfl, hs, hj⟩ := hi
    obtain ⟨o1, o2, o3⟩ := odS_ok w6 hL i hi
    have o6 : (odS (B 0) w (ndE B none) L0 i).1 < 65536 := by have := sb_le o1 w6; omega
    dsimp only [X12_ordered_b66]
    rw [ifE (by omega) (by omega)]
    rcases Nat.lt_or_eq_of_le hi with c | c
    · left
      have hne : (odS (B 0) w (ndE B none) L0 i).1 ≠ w := fun q => by rw [q] at o2; omega
      obtain ⟨k1, k2, k3, k4, k5⟩ := kS_ok w6 o1 hne o3
      have pk := r_pick (S := S') hw hw2 hc (fun k hk => by rw [hs.2.2.2 9 (by decide)]; exact hn k hk) (fun P hP => by rw [hs.2.2.1]; exact hW P hP) o1 hne (nI i) o3
      refine ⟨bts w - (i + 1), (lN (odS (B 0) w (ndE B none) L0 (i + 1)).2, nI (odS (B 0) w (ndE B none) L0 (i + 1)).1, nI (i + 1), uA S' 4 (upd (S'.2.2.1 4) (119 + i) (nI (odK (B 0) w (ndE B none) L0 i)))), by omega, ⟨i + 1, _, by omega, rfl, rfl, sx_tr hs (sx_uA _ _ _), fun j => ?_⟩, ?_⟩
      · rw [uA_at]
        by_cases e : j = 119 + i
        · subst e
          rw [upd_at, if_pos (by omega)]
          congr 2; omega
        · rw [upd_ne _ _ e, hj j]
          by_cases q : 119 ≤ j ∧ j < 119 + i
          · rw [if_pos q, if_pos (by omega)]
          · rw [if_neg q, if_neg (by omega)]
      · rw [if_neg hne, pk, ob_s]
        try dsimp only
        rw [show (119 : Int32) = nI 119 from rfl, nI_add, g_inT (by omega) (by omega), thn_eq, thn_eq, thn_eq, nI_clamp (by omega), nI_1, show (1 : Int32) <<< (nI (kS (B 0) w (ndE B none) (odS (B 0) w (ndE B none) L0 i).1 (odS (B 0) w (ndE B none) L0 i).2) &&& 31) = nI (2 ^ kS (B 0) w (ndE B none) (odS (B 0) w (ndE B none) L0 i).1 (odS (B 0) w (ndE B none) L0 i).2) from s1I (by omega), orI]
        rfl
    · subst c
      right
      refine ⟨_, ⟨S', rfl, hs, hj⟩, ?_⟩
      rw [if_pos (odS_all w6 hL)]) FU (bts w) (lN L0, nI 0, nI 0, S) (by show bts w < 100000; omega) ⟨0, S, Nat.zero_le _, rfl, rfl, sx_rf _ _, fun j => by rw [if_neg (by omega)]⟩
  exact ⟨S', by rw [← g2]; exact g1, g3, g4⟩
end R
section X
variable {B : Nat → Nat} {r q : RS} {w st len P : Nat}
theorem x_pick (hR : bkR B r) (hw : wfB B) (hc : cnR B w none st q) (hw2 : w < 2 ^ B 0) (hlen : w < len) (hl6 : len ≤ 65536) (hst : st < 2 ^ 18) (hs : sbN P w) (hne : P ≠ w) (v5 v8 v9 : Int32) (s3 : RS) {z : RS} (hz : mmR len st (wy (B 0) w (ndE B none)) z) {L : Nat} (hL : L < wy (B 0) w (ndE B none) P) : ∃ z', a_loop (fun (y : Int64 × Int32 × RS) => X5_writeOrder_b38 (nI P) v5 v8 v9 y.1 y.2.1 q r y.2.2 s3) FU (lN L, (0 : Int32), z) = some (.inl (lN (L - smN (gS (B 0) w (ndE B none) P) (kS (B 0) w (ndE B none) P L)), nI (kS (B 0) w (ndE B none) P L), z')) ∧ mmR len st (wy (B 0) w (ndE B none)) z' := by
  have h16 := hw.1
  have w6 : w < 65536 := by omega
  have P6 : P < 65536 := by have := sb_le hs w6; omega
  have d6 : bdf w P < 65536 := bdf_lt (n := 16) w6
  have wl := wy_lt (nd := ndE B none) h16 w6 hs
  obtain ⟨k1, k2, k3, k4, k5⟩ := kS_ok w6 hs hne hL
  generalize kS (B 0) w (ndE B none) P L = K at *
  obtain ⟨x, g1, z', g2, g3⟩ := lp_m (body := fun (y : Int64 × Int32 × RS) => X5_writeOrder_b38 (nI P) v5 v8 v9 y.1 y.2.1 q r y.2.2 s3) (I := fun m y => ∃ k z', k ≤ K ∧ m = K - k ∧ y = (lN (L - smN (gS (B 0) w (ndE B none) P) k), nI k, z') ∧ mmR len st (wy (B 0) w (ndE B none)) z') (P := fun x => ∃ z', x = .inl (lN (L - smN (gS (B 0) w (ndE B none) P) K), nI K, z') ∧ mmR len st (wy (B 0) w (ndE B none)) z') (fun m y hi => by
    obtain ⟨k, z', hk, rfl, rfl, hz'⟩ := hi
    have hg : gS (B 0) w (ndE B none) P k = if rdy w (ndE B none) P k then wy (B 0) w (ndE B none) (P ||| 2 ^ k) else 0 := rfl
    dsimp only [X5_writeOrder_b38, X5_writeOrder_j128]
    rw [hR.2.1, hc.1, if_neg (nI_ge (by omega) (by omega)), show (-1 : Int32) = m1I from rfl, dfI, isInT (by omega) (by omega), ob_s, x_isReady hR hw hc (by omega) P6, ob_s, bdf_tb, show (1 : Int32) <<< (nI k &&& 31) = nI (2 ^ k) from s1I (by omega), orI]
    by_cases rr : rdy w (ndE B none) P k = true
    · obtain ⟨r1, r2, r3⟩ := rdy_w rr
      obtain ⟨z2, j1, j2⟩ := x_ways hR hw hc hw2 hlen hl6 hst 20 0 (P ||| 2 ^ k) z' (sb_or hs r1) (Nat.zero_le _) (by omega) hz'
      have j1' : pX5_waysBehind 20 q r z' (nI (P ||| 2 ^ k)) (0 : Int32) = some (lN (wy (B 0) w (ndE B none) (P ||| 2 ^ k)), z2) := j1
      have wl2 := wy_lt (nd := ndE B none) h16 w6 (sb_or hs r1)
      have r3' : (bdf (ndE B none k) P == 0) = true := by simpa using r3
      rw [rr, if_pos rfl] at hg
      rw [r1, r2, r3', j1', ob_s]
      rcases Nat.lt_or_eq_of_le hk with c | c
      · have h5 := k5 k c
        rw [smN_s, hg] at h5
        refine Or.inl ⟨K - (k + 1), _, by omega, ⟨k + 1, z2, by omega, rfl, rfl, j2⟩, ?_⟩
        try dsimp only
        rw [if_pos (show (true && !false) = true from rfl), if_pos rfl, if_pos ((pk_lLE (by omega) (by omega)).mpr (by omega)), thn_eq, thn_eq, nI_1, lN_sub (by omega), smN_s, hg, Nat.sub_sub]
      · subst c
        rw [smN_s, hg] at k3
        refine Or.inr ⟨_, ⟨z2, rfl, j2⟩, ?_⟩
        try dsimp only
        rw [if_pos (show (true && !false) = true from rfl), if_pos rfl, if_neg (fun q => by have := (pk_lLE (by omega) (by omega)).mp q; omega)]
    · rw [if_neg rr] at hg
      rcases Nat.lt_or_eq_of_le hk with c | c
      · refine Or.inl ⟨K - (k + 1), _, by omega, ⟨k + 1, z', by omega, rfl, rfl, hz'⟩, ?_⟩
        rw [smN_s, hg]
        unfold rdy at rr
        simp only [thn_eq, nI_1]
        cases c1 : w.testBit k with
        | false => rfl
        | true =>
          cases c2 : P.testBit k with
          | true => rfl
          | false =>
            have c3 : (bdf (ndE B none k) P == 0) = false := by
              rw [c1, c2] at rr
              simpa using rr
            rw [c3]; rfl
      · subst c
        exact absurd k4 rr) FU K (lN L, nI 0, z) (by show K < 100000; omega) ⟨0, z, Nat.zero_le _, rfl, rfl, hz⟩
  exact ⟨z', by rw [← g2]; exact g1, g3⟩
theorem x_writeOrder (hR : bkR B r) (hw : wfB B) (hc : cnR B w none st q) (hw2 : w < 2 ^ B 0) (hlen : w < len) (hl6 : len ≤ 65536) (hst : st < 2 ^ 18) {z s1 : RS} (hz : mmR len st (wy (B 0) w (ndE B none)) z) {L0 : Nat} (hL : L0 < wy (B 0) w (ndE B none) 0) : ∃ z' s', pX5_writeOrder q r z s1 (lN L0) = some (nI (bts w), z', s') ∧ mmR len st (wy (B 0) w (ndE B none)) z' ∧ sx 3 s1 s' ∧ ∀ j, j < bts w → s'.2.2.1 3 j = nI (odK (B 0) w (ndE B none) L0 j) := by
  have h16 := hw.1
  have w6 : w < 65536 := by omega
  have b16 := bts_le w
  unfold pX5_writeOrder
  rw [hc.1, bcT w6, ob_s]
  obtain ⟨x, g1, z', s', g2, g3, g4, g5⟩ := lp_m (body := fun (y : Int32 × Int32 × Int64 × Int32 × RS × RS) => X5_writeOrder_b21 (nI (bts w)) y.1 y.2.1 y.2.2.1 y.2.2.2.1 q r y.2.2.2.2.1 y.2.2.2.2.2) (I := fun m y => ∃ i z' s', i ≤ bts w ∧ m = bts w - i ∧ y = (nI (odS (B 0) w (ndE B none) L0 i).1, nI i, lN (odS (B 0) w (ndE B none) L0 i).2, nI i, z', s') ∧ mmR len st (wy (B 0) w (ndE B none)) z' ∧ sx 3 s1 s' ∧ ∀ j, j < i → s'.2.2.1 3 j = nI (odK (B 0) w (ndE B none) L0 j)) (P := fun x => ∃ z' s', x = (nI (bts w), z', s') ∧ mmR len st (wy (B 0) w (ndE B none)) z' ∧ sx 3 s1 s' ∧ ∀ j, j < bts w → s'.2.2.1 3 j = nI (odK (B 0) w (ndE B none) L0 j)) (fun m y hi => by
    obtain ⟨i, z', s', hi, rfl, rfl, hz', hs, hj⟩ := hi
    obtain ⟨o1, o2, o3⟩ := odS_ok w6 hL i hi
    dsimp only [X5_writeOrder_b21, X5_writeOrder_j134]
    rcases Nat.lt_or_eq_of_le hi with c | c
    · left
      have hne : (odS (B 0) w (ndE B none) L0 i).1 ≠ w := fun q => by rw [q] at o2; omega
      obtain ⟨k1, k2, k3, k4, k5⟩ := kS_ok w6 o1 hne o3
      obtain ⟨z2, p1, p2⟩ := x_pick hR hw hc hw2 hlen hl6 hst o1 hne (nI i) (nI (bts w)) (nI i) s' hz' o3
      refine ⟨bts w - (i + 1), (nI (odS (B 0) w (ndE B none) L0 (i + 1)).1, nI (i + 1), lN (odS (B 0) w (ndE B none) L0 (i + 1)).2, nI (i + 1), z2, uA s' 3 (upd (s'.2.2.1 3) i (nI (odK (B 0) w (ndE B none) L0 i)))), by omega, ⟨i + 1, z2, _, by omega, rfl, rfl, p2, sx_tr hs (sx_uA _ _ _), fun j hj2 => ?_⟩, ?_⟩
      · rw [uA_at]
        by_cases e : j = i
        · rw [e, upd_at]
        · rw [upd_ne _ _ e]; exact hj j (by omega)
      · rw [if_neg (nI_ge c (by omega)), if_neg (show ¬ (16 : Int32) ≤ nI i from nI_ge (b := 16) (by omega) (by omega)), p1, ob_s, se_l]
        try dsimp only
        rw [g_inT (by omega) (by omega), thn_eq, thn_eq, thn_eq, thn_eq, nI_clamp (by omega), nI_1, show (1 : Int32) <<< (nI (kS (B 0) w (ndE B none) (odS (B 0) w (ndE B none) L0 i).1 (odS (B 0) w (ndE B none) L0 i).2) &&& 31) = nI (2 ^ kS (B 0) w (ndE B none) (odS (B 0) w (ndE B none) L0 i).1 (odS (B 0) w (ndE B none) L0 i).2) from s1I (by omega), orI]
        rfl
    · subst c
      right
      refine ⟨_, ⟨z', s', rfl, hz', hs, hj⟩, ?_⟩
      rw [if_pos (nI_le (Nat.le_refl _) (by omega))]) FU (bts w) (nI 0, nI 0, lN L0, nI 0, z, s1) (by show bts w < 100000; omega) ⟨0, z, s1, Nat.zero_le _, rfl, rfl, hz, sx_rf _ _, fun j h => absurd h (Nat.not_lt_zero _)⟩
  refine ⟨z', s', bd g1 ?_, g3, g4, g5⟩
  rw [g2]
end X
