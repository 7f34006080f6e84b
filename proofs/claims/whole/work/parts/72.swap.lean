/-! ORDERS: swap, forward; HAS, GIVE -/
/-- the numbers c but for the ORDER -/
def c4s (s s' : RS) : Prop := sx 4 s s' ∧ ∀ j, (j < 118 ∨ 135 ≤ j) → s'.2.2.1 4 j = s.2.2.1 4 j
theorem c4_rf (s : RS) : c4s s s := ⟨sx_rf _ _, fun _ _ => rfl⟩
theorem c4_tr {a b c : RS} (h : c4s a b) (k : c4s b c) : c4s a c := ⟨sx_tr h.1 k.1, fun j hj => (k.2 j hj).trans (h.2 j hj)⟩
section X
variable {s s1 r : RS} {B : Nat → Nat} {n : Nat} {O : Nat → Nat} {p : Nat}
theorem r_swapped (hB : blk (s.2.2.1 4) 0 B) (hw : wfB B) (hO : orW B n O) (ho : orR (s.2.2.1 4) n O) (hp : p + 1 < n) : ((B (82 + O (p + 1))).testBit (O p) = true ∧ pX12_swapped s (nI p) = some (false, s)) ∨ ((B (82 + O (p + 1))).testBit (O p) = false ∧ ∃ s', pX12_swapped s (nI p) = some (true, s') ∧ orR (s'.2.2.1 4) n (swp O p) ∧ c4s s s') := by
  have h16 := hw.1
  have n16 := hO.1
  have a1 := (hO.2 p (by omega)).1
  have b1 := (hO.2 (p + 1) hp).1
  have v1 : s.2.2.1 4 (82 + O (p + 1)) = nI (B (82 + O (p + 1))) := by
    have := hB.1 (82 + O (p + 1)) (by omega)
    rwa [Nat.zero_add] at this
  have v2 := hB.2 (82 + O (p + 1))
  have e2 : s.2.2.1 4 (119 + p + 1) = nI (O (p + 1)) := ho.2 (p + 1) hp
  unfold pX12_swapped
  rw [show (119 : Int32) = nI 119 from rfl, show (82 : Int32) = nI 82 from rfl, nI_add, nI_1, g_inT (by omega) (by omega), nI_clamp (by omega), ho.2 p (by omega), thn_eq, g_inT (by omega) (by omega), nI_clamp (by omega), e2, thn_eq, nI_add, g_inT (by omega) (by omega), nI_clamp (by omega), v1, hasT (by omega) (by omega), ob_s]
  cases c : (B (82 + O (p + 1))).testBit (O p) with
  | true => exact Or.inl ⟨rfl, by rw [if_pos rfl]⟩
  | false =>
    refine Or.inr ⟨rfl, uA (uA s 4 (upd (s.2.2.1 4) (119 + p) (nI (O (p + 1))))) 4 (upd ((uA s 4 (upd (s.2.2.1 4) (119 + p) (nI (O (p + 1))))).2.2.1 4) (119 + p + 1) (nI (O p))), ?_, ⟨?_, fun k hk => ?_⟩, sx_tr (sx_uA _ _ _) (sx_uA _ _ _), fun j hj => ?_⟩
    · rw [if_neg (by decide), g_inT (by omega) (by omega), thn_eq, g_inT (by omega) (by omega), thn_eq]
    · rw [uA_at, upd_ne _ _ (by omega), uA_at, upd_ne _ _ (by omega)]; exact ho.1
    · rw [uA_at, uA_at]
      unfold swp
      by_cases e1 : k = p
      · subst e1
        rw [upd_ne _ _ (by omega), upd_at, if_pos rfl]
      · by_cases e3 : k = p + 1
        · subst e3
          rw [show 119 + (p + 1) = 119 + p + 1 by omega, upd_at, if_neg (by omega), if_pos rfl]
        · rw [upd_ne _ _ (by omega), upd_ne _ _ (by omega), if_neg e1, if_neg e3]
          exact ho.2 k hk
    · rw [uA_at, upd_ne _ _ (by omega), uA_at, upd_ne _ _ (by omega)]
theorem x_maySwap (hR : bkR B r) (hw : wfB B) (hO : orW B n O) (ho : orC s1 n O) (hp : p + 1 < n) : pX7_maySwap s1 r (nI p) = some (!(B (82 + O (p + 1))).testBit (O p)) := by
  have h16 := hw.1
  have n16 := hO.1
  have a1 := (hO.2 p (by omega)).1
  have b1 := (hO.2 (p + 1) hp).1
  have v2 := (wfB_v hw b1).2.1
  unfold pX7_maySwap
  rw [nI_1, x_inOrd ho.1 n16 (by omega), x_inOrd ho.1 n16 (by omega), decide_eq_true (by omega : p < n), decide_eq_true hp, ob_s, if_pos rfl, ob_s, if_pos rfl, g_inT (by omega) (by omega), nI_clamp (by omega), ho.2 _ hp, g_inT (by omega) (by omega), g_inT (by omega) (by omega), nI_clamp (by omega), nI_clamp (by omega), ho.2 p (by omega), (hR.2.2.2 _ b1).2.2.2.2.2.1, isInT (by omega) (by omega), ob_s]
  cases (B (82 + O (p + 1))).testBit (O p) <;> rfl
theorem x_exchange (hO : orW B n O) (ho : orC s1 n O) (hp : p + 1 < n) : ∃ s1', pX7_exchange s1 (nI p) = some s1' ∧ orC s1' n (swp O p) ∧ sx 3 s1 s1' := by
  have n16 := hO.1
  unfold pX7_exchange
  rw [nI_1, x_inOrd ho.1 n16 (by omega), x_inOrd ho.1 n16 (by omega), decide_eq_true (by omega : p < n), decide_eq_true hp, ob_s, if_pos rfl, ob_s, if_pos rfl, g_inT (by omega) (by omega), thn_eq, g_inT (by omega) (by omega), g_inT (by omega) (by omega), thn_eq, g_inT (by omega) (by omega), thn_eq, nI_clamp (by omega), nI_clamp (by omega), ho.2 p (by omega), ho.2 _ hp]
  refine ⟨_, rfl, ⟨ho.1, fun k hk => ?_⟩, sx_tr (sx_uA _ _ _) (sx_uA _ _ _)⟩
  rw [uA_at, uA_at]
  unfold swp
  by_cases e1 : k = p
  · subst e1
    rw [upd_ne _ _ (by omega), upd_at, if_pos rfl]
  · by_cases e3 : k = p + 1
    · subst e3
      rw [upd_at, if_neg (by omega), if_pos rfl]
    · rw [upd_ne _ _ e3, upd_ne _ _ e1, if_neg e1, if_neg e3]
      exact ho.2 k hk
theorem oCh_of {s' s1' : RS} {O' : Nat → Nat} {sA : RS} (h : rsame s sA) (hc : c4s sA s') (hx : sx 3 s1 s1') (h1 : orR (s'.2.2.1 4) n O') (h2 : orC s1' n O') (h3 : orW B n O') : oCh B s s' s1 s1' :=
  Or.inr ⟨rs4_sx (rs4_of h) hc.1, fun j hj => by rw [hc.2 j hj, h.2.2.1.2.2.2.1], hx.2.2.2 2 (by decide), n, O', h1, h2, h3⟩
end X
section Q
variable {s r : RS} {B : Nat → Nat} {s0 s1 : RS} {n : Nat} {O : Nat → Nat}
theorem q_swap (hB : blk (s.2.2.1 4) 0 B) (hw : wfB B) (hR : bkR B r) (hO : orW B n O) (ho : orR (s.2.2.1 4) n O) (ho1 : orC s1 n O) (a0 : Int32) : ∃ b s' s1', pX12_swap s a0 = some (b, s') ∧ oCh B s s' s1 s1' ∧ pX11_swap s0 s1 r a0 = some (b, uI s0 11 (s'.1 0), s1') := by
  have n16 := hO.1
  have hb : (uI (uI s 1 (0 : Int32)) 0 (0 : Int32)).2.2.1 4 (118 : Int32).toNatClampNeg = nI n := ho.1
  unfold pX12_swap pX11_swap X11_swap_j24
  simp only [thn_eq]
  rw [g118, hb]
  rcases isInM2 a0 (m := n) (by omega) with ⟨t, ht, rfl, e⟩ | ⟨e, h⟩
  · rw [e, ob_s, if_pos rfl, nI_1, x_inOrd ho1.1 n16 (by omega), x_inOrd ho1.1 n16 (by omega), decide_eq_true (by omega : t < n), decide_eq_true ht, ob_s, if_pos rfl, ob_s, if_pos rfl, x_maySwap hR hw hO ho1 ht, ob_s]
    rcases r_swapped (s := uI (uI s 1 0) 0 0) hB hw hO ho ht with ⟨d, k1⟩ | ⟨d, s', k1, k2, k3⟩
    · rw [k1, ob_s, d]
      exact ⟨false, uI (uI (uI s 1 0) 0 0) 0 9, s1, rfl, Or.inl ⟨rq_3 _ _ _ _, rfl⟩, rfl⟩
    · obtain ⟨s1', j1, j2, j3⟩ := x_exchange hO ho1 ht
      rw [k1, ob_s, d, j1]
      refine ⟨true, s', s1', rfl, oCh_of (rq_2 s 0 0) k3 j3 k2 j2 (orW_swp hw hO ht d), ?_⟩
      rw [k3.1.1]; rfl
  · refine ⟨false, uI (uI (uI s 1 0) 0 0) 0 8, s1, ?_, Or.inl ⟨rq_3 _ _ _ _, rfl⟩, ?_⟩
    · rw [e]; rfl
    · rcases h with h | ⟨t, h1, h2, rfl⟩
      · rw [x_inOrdO ho1.1 h]; rfl
      · rw [nI_1, x_inOrd ho1.1 n16 (by omega), x_inOrd ho1.1 n16 (by omega), decide_eq_true h1, decide_eq_false (by omega)]; rfl
end Q
def fwd (B : Nat → Nat) : Nat → (Nat → Nat) → Nat × (Nat → Nat)
  | 0, O => (0, O)
  | p + 1, O => if (B (82 + O (p + 1))).testBit (O p) then (p + 1, O) else fwd B p (swp O p)
theorem fwd_ok {B : Nat → Nat} (hw : wfB B) {n : Nat} : ∀ (p : Nat) (O : Nat → Nat), orW B n O → p < n → orW B n (fwd B p O).2 ∧ (fwd B p O).1 ≤ p
  | 0, O, h, _ => ⟨h, Nat.le_refl _⟩
  | p + 1, O, h, hp => by
    unfold fwd
    cases c : (B (82 + O (p + 1))).testBit (O p) with
    | true => rw [if_pos rfl]; exact ⟨h, Nat.le_refl _⟩
    | false =>
      rw [if_neg (by decide)]
      obtain ⟨h1, h2⟩ := fwd_ok hw p (swp O p) (orW_swp hw h hp c) (by omega)
      exact ⟨h1, by omega⟩
section Q
variable {r : RS} {B : Nat → Nat} {s0 : RS} {n : Nat}
theorem r_fwd (hw : wfB B) : ∀ (p N : Nat) (O : Nat → Nat) (s : RS), blk (s.2.2.1 4) 0 B → orW B n O → orR (s.2.2.1 4) n O → p < n → p + 2 < N → ∃ s', a_loop (fun (q : Int32 × Bool × RS) => X12_forward_b73 q.1 q.2.1 q.2.2) N (nI p, true, s) = some (nI (fwd B p O).1, s') ∧ orR (s'.2.2.1 4) n (fwd B p O).2 ∧ c4s s s'
  | 0, N, O, s, hB, hO, ho, _, hN => by
    obtain ⟨M, rfl⟩ := Nat.exists_eq_succ_of_ne_zero (show N ≠ 0 by omega)
    refine ⟨s, lp_e ?_, ho, c4_rf s⟩
    dsimp only [X12_forward_b73]
    rw [if_pos (show nI 0 ≤ 0 by decide)]; rfl
  | p + 1, N, O, s, hB, hO, ho, hp, hN => by
    have n16 := hO.1
    obtain ⟨M, rfl⟩ := Nat.exists_eq_succ_of_ne_zero (show N ≠ 0 by omega)
    rcases r_swapped hB hw hO ho hp with ⟨d, k1⟩ | ⟨d, s', k1, k2, k3⟩
    · obtain ⟨M2, rfl⟩ := Nat.exists_eq_succ_of_ne_zero (show M ≠ 0 by omega)
      have hf : fwd B (p + 1) O = (p + 1, O) := if_pos d
      rw [hf]
      refine ⟨s, ?_, ho, c4_rf s⟩
      rw [lp_s (s' := (nI (p + 1), false, s)) ?_]
      · refine lp_e ?_
        dsimp only [X12_forward_b73]
        rw [if_neg (show ¬ nI (p + 1) ≤ 0 from nI_nle (by omega) (by omega)), if_neg (by decide)]
      · dsimp only [X12_forward_b73]
        rw [if_neg (show ¬ nI (p + 1) ≤ 0 from nI_nle (by omega) (by omega)), if_pos rfl, nI_pred, k1, ob_s]; rfl
    · have hf : fwd B (p + 1) O = fwd B p (swp O p) := if_neg (by rw [d]; decide)
      rw [hf]
      have hB' : blk (s'.2.2.1 4) 0 B := ⟨fun j hj => by rw [k3.2 (0 + j) (by omega)]; exact hB.1 j hj, hB.2⟩
      obtain ⟨s2, g1, g2, g3⟩ := r_fwd hw p M (swp O p) s' hB' (orW_swp hw hO hp d) k2 (by omega) (by omega)
      refine ⟨s2, ?_, g2, c4_tr k3 g3⟩
      rw [lp_s (s' := (nI p, true, s')) ?_]
      · exact g1
      · dsimp only [X12_forward_b73]
        rw [if_neg (show ¬ nI (p + 1) ≤ 0 from nI_nle (by omega) (by omega)), if_pos rfl, nI_pred, k1, ob_s, if_pos rfl, thn_eq, pk_m1]
theorem x_fwd (hR : bkR B r) (hw : wfB B) : ∀ (p N : Nat) (O : Nat → Nat) (s1 : RS), orW B n O → orC s1 n O → p < n → p + 1 < N → ∃ s1', a_loop (fun (q : Int32 × RS) => X11_forward_b41 q.1 s0 q.2 r) N (nI p, s1) = some (nI (fwd B p O).1, s1') ∧ orC s1' n (fwd B p O).2 ∧ sx 3 s1 s1'
  | 0, N, O, s1, hO, ho, _, hN => by
    obtain ⟨M, rfl⟩ := Nat.exists_eq_succ_of_ne_zero (show N ≠ 0 by omega)
    refine ⟨s1, lp_e ?_, ho, sx_rf _ _⟩
    dsimp only [X11_forward_b41]
    rw [if_pos (show nI 0 ≤ 0 by decide)]; rfl
  | p + 1, N, O, s1, hO, ho, hp, hN => by
    have n16 := hO.1
    obtain ⟨M, rfl⟩ := Nat.exists_eq_succ_of_ne_zero (show N ≠ 0 by omega)
    cases d : (B (82 + O (p + 1))).testBit (O p) with
    | true =>
      have hf : fwd B (p + 1) O = (p + 1, O) := if_pos d
      rw [hf]
      refine ⟨s1, lp_e ?_, ho, sx_rf _ _⟩
      dsimp only [X11_forward_b41]
      rw [if_neg (show ¬ nI (p + 1) ≤ 0 from nI_nle (by omega) (by omega)), nI_pred, x_maySwap hR hw hO ho hp, ob_s, d]; rfl
    | false =>
      have hf : fwd B (p + 1) O = fwd B p (swp O p) := if_neg (by rw [d]; decide)
      rw [hf]
      obtain ⟨s1', j1, j2, j3⟩ := x_exchange hO ho hp
      obtain ⟨s2, g1, g2, g3⟩ := x_fwd hR hw p M (swp O p) s1' (orW_swp hw hO hp d) j2 (by omega) (by omega)
      refine ⟨s2, ?_, g2, sx_tr j3 g3⟩
      rw [lp_s (s' := (nI p, s1')) ?_]
      · exact g1
      · dsimp only [X11_forward_b41]
        rw [if_neg (show ¬ nI (p + 1) ≤ 0 from nI_nle (by omega) (by omega)), nI_pred, x_maySwap hR hw hO ho hp, ob_s, d, if_pos (show (!false) = true from rfl), j1, ob_s, thn_eq, pk_m1]
theorem orW_inj {O : Nat → Nat} (hO : orW B n O) {i j : Nat} (hi : i < j) (hj : j < n) : O i ≠ O j := fun q => by
  have := (hO.2 j hj).2.1
  rw [opf_tb, anN_f] at this
  have := this i hi
  exact of_decide_eq_false this q
variable {s s1 : RS} {O : Nat → Nat}
theorem q_forward (hB : blk (s.2.2.1 4) 0 B) (hw : wfB B) (hR : bkR B r) (hO : orW B n O) (ho : orR (s.2.2.1 4) n O) (ho1 : orC s1 n O) (a0 : Int32) : ∃ a s' s1', pX12_forward s a0 = some (a, s') ∧ oCh B s s' s1 s1' ∧ pX11_forward s0 s1 r a0 = some (a, uI s0 11 (s'.1 0), s1') := by
  have h16 := hw.1
  have n16 := hO.1
  have hb : (uI (uI s 1 (0 : Int32)) 0 (0 : Int32)).2.2.1 4 (118 : Int32).toNatClampNeg = nI n := ho.1
  unfold pX12_forward pX11_forward X11_forward_j74
  simp only [thn_eq]
  rcases is_change (s := uI (uI s 1 0) 0 0) hB hw hR a0 with ⟨x, hx, rfl, e1, e2⟩ | ⟨e1, e2⟩
  · have lp : a_loop (fun (q : Int32 × Int32) => X12_forward_b28 (nI x) q.1 q.2 (uI (uI s 1 (0 : Int32)) 0 (0 : Int32))) FU ((-1 : Int32), (0 : Int32)) = some (oI (lsN (fun i => O i == x) n)) := by
      refine lp_f (fun k => (oI (lsN (fun i => O i == x) k), nI k)) n (by omega) (fun k hk => ?_) ?_
      · dsimp only [X12_forward_b28, X12_forward_j54]
        have := (hO.2 k hk).1
        have hv : (uI (uI s 1 (0 : Int32)) 0 (0 : Int32)).2.2.1 4 (119 + k) = nI (O k) := ho.2 k hk
        rw [g118, hb, if_neg (nI_ge hk (by omega)), show (119 : Int32) = nI 119 from rfl, nI_add, g_inT (by omega) (by omega), nI_clamp (by omega), hv, ifE (by omega) (by omega), lsN_s]
        simp only [thn_eq, nI_1]
        by_cases c : O k = x
        · rw [if_pos c, if_pos (by simpa using c)]; rfl
        · rw [if_neg c, if_neg (by simpa using c)]
      · dsimp only [X12_forward_b28]
        rw [g118, hb, if_pos (nI_le (Nat.le_refl _) (by omega))]
    have pl : pX7_placeInOrder s1 (nI x) = some (if fsN (fun i => O i == x) n < n then nI (fsN (fun i => O i == x) n) else m1I) := by
      unfold pX7_placeInOrder
      refine bd (lp_fnd (fun i => O i == x) n (by omega) (fun k hk => ?_) ?_) ?_
      · dsimp only [X7_placeInOrder_b2]
        have := (hO.2 k hk).1
        rw [ho1.1, if_neg (nI_ge hk (by omega)), g_inT (by omega) (by omega), nI_clamp (by omega), ho1.2 k hk, ifE (by omega) (by omega)]
        simp only [thn_eq, nI_1]
        by_cases c : O k = x
        · rw [if_pos c, if_pos (by simpa using c)]
        · rw [if_neg c, if_neg (by simpa using c)]
      · dsimp only [X7_placeInOrder_b2]
        rw [ho1.1, if_pos (nI_le (Nat.le_refl _) (by omega))]
      · by_cases c : fsN (fun i => O i == x) n < n
        · rw [if_pos c, if_pos c]; rfl
        · rw [if_neg c, if_neg c]; rfl
    rw [e1, e2, ob_s, ob_s, if_pos rfl, if_pos rfl, pl, ob_s]
    cases c : lsN (fun i => O i == x) n with
    | none =>
      have nf : ¬ fsN (fun i => O i == x) n < n := fun q => by
        obtain ⟨j, hj⟩ := lsN_ex q (fsN_yes _ _ q)
        rw [c] at hj; cases hj
      rw [if_neg nf, if_pos (show m1I = (-1 : Int32) from rfl)]
      refine ⟨-1, uI (uI (uI s 1 0) 0 0) 0 8, s1, bd lp ?_, Or.inl ⟨rq_3 _ _ _ _, rfl⟩, rfl⟩
      rw [c, if_neg (show ¬ (0 : Int32) ≤ oI none by decide)]; rfl
    | some p =>
      obtain ⟨hp, he⟩ := lsN_some c
      have he : O p = x := by simpa using he
      have ef : fsN (fun i => O i == x) n = p := fsN_eq (by omega) (fun j hj => by
        have := orW_inj hO hj hp
        rw [he] at this
        simpa using this) (Or.inr (by simpa using he))
      obtain ⟨s', g1, g2, g3⟩ := r_fwd hw p FU O (uI (uI s 1 0) 0 0) hB hO ho hp (by show p + 2 < 100000; omega)
      obtain ⟨s1', j1, j2, j3⟩ := x_fwd (s0 := s0) hR hw p FU O s1 hO ho1 hp (by show p + 1 < 100000; omega)
      rw [ef, if_pos hp, if_neg (show ¬ nI p = (-1 : Int32) by rw [show (-1 : Int32) = m1I from rfl, m1_ne (by omega)]; exact not_false), j1, ob_s]
      refine ⟨nI (fwd B p O).1, s', s1', bd lp ?_, oCh_of (rq_2 s 0 0) g3 j3 g2 j2 (fwd_ok hw p O hO hp).1, ?_⟩
      · rw [c, if_pos (show (0 : Int32) ≤ oI (some p) from nI_pos' (by omega))]
        exact bd g1 rfl
      · rw [g3.1.1]; rfl
  · rw [e1, e2]
    exact ⟨-1, uI (uI (uI s 1 0) 0 0) 0 2, s1, rfl, Or.inl ⟨rq_3 _ _ _ _, rfl⟩, rfl⟩
def hsR (c : Nat → Int32) (H : Nat → Nat) : Prop := ∀ i, i < 4 → c (114 + i) = nI (H i)
def hsC (s1 : RS) (H : Nat → Nat) : Prop := ∀ i, i < 4 → s1.2.2.1 2 i = nI (H i)
def hsW (B : Nat → Nat) (H : Nat → Nat) : Prop := ∀ i, i < 4 → H i < 2 ^ B 0 ∧ lk B (H i) = 0
theorem q_has {H : Nat → Nat} (hB : blk (s.2.2.1 4) 0 B) (hw : wfB B) (hR : bkR B r) (hh : hsR (s.2.2.1 4) H) (hh1 : hsC s1 H) (a0 : Int32) : qq s s0 (pX12_has s a0) (pX11_has s0 s1 r a0) := by
  have h4 := hw.2.1
  unfold pX12_has pX11_has
  simp only [thn_eq]
  rcases is_island (s := uI (uI s 1 0) 0 0) hB hw hR a0 with ⟨i, hi, rfl, e1, e2⟩ | ⟨e1, e2⟩
  · have hv : (uI (uI s 1 (0 : Int32)) 0 (0 : Int32)).2.2.1 4 (114 + i) = nI (H i) := hh i (by omega)
    rw [e1, e2, ob_s, ob_s, if_pos rfl, if_pos rfl, show (114 : Int32) = nI 114 from rfl, nI_add, g_inT (by omega) (by omega), g_inT (by omega) (by omega), nI_clamp (by omega), nI_clamp (by omega), hv, hh1 i (by omega)]
    exact ⟨_, _, rfl, rq_2 _ _ _, rfl⟩
  · rw [e1, e2]; exact ⟨_, _, rfl, rq_3 _ _ _ _, rfl⟩
theorem q_give (hB : blk (s.2.2.1 4) 0 B) (hw : wfB B) (hR : bkR B r) (a0 a1 : Int32) : (∃ s', pX12_give s a0 a1 = some (false, s') ∧ rsame s s' ∧ pX11_give s0 s1 r a0 a1 = some (false, uI s0 11 (s'.1 0), s1)) ∨ ∃ i t, i < B 1 ∧ t < 2 ^ B 0 ∧ lk B t = 0 ∧ pX12_give s a0 a1 = some (true, uA (uI (uI s 1 0) 0 0) 4 (upd (s.2.2.1 4) (114 + i) (nI t))) ∧ pX11_give s0 s1 r a0 a1 = some (true, uI s0 11 0, uA s1 2 (upd (s1.2.2.1 2) i (nI t))) := by
  have h4 := hw.2.1
  have h16 := hw.1
  unfold pX12_give pX11_give X12_give_j26 X11_give_j28
  simp only [thn_eq]
  rcases is_island (s := uI (uI s 1 0) 0 0) hB hw hR a0 with ⟨i, hi, rfl, e1, e2⟩ | ⟨e1, e2⟩
  · rw [e1, e2, ob_s, ob_s, if_pos rfl, if_pos rfl]
    rcases is_set (s := uI (uI s 1 0) 0 0) hB hw hR a1 with ⟨t, ht, ht', rfl, e3, e4⟩ | ⟨e3, e4⟩
    · have hl := lk_lt hw t
      rw [e3, e4, ob_s, ob_s, if_pos rfl, if_pos rfl, r_lackOf (s := uI (uI s 1 0) 0 0) hB hw ht', x_isClosed hR hw ht', ob_s, ob_s]
      by_cases c : lk B t = 0
      · right
        refine ⟨i, t, hi, ht, c, ?_, ?_⟩
        · rw [if_pos (show nI (lk B t) = 0 by rw [c]; rfl), show (114 : Int32) = nI 114 from rfl, nI_add, g_inT (by omega) (by omega), nI_clamp (by omega)]; rfl
        · rw [if_pos (by simpa using c), g_inT (by omega) (by omega), nI_clamp (by omega)]; rfl
      · left
        refine ⟨uI (uI (uI s 1 0) 0 0) 0 9, ?_, rq_3 _ _ _ _, ?_⟩
        · rw [if_neg (show ¬ nI (lk B t) = 0 from fun q => c ((nI_eq (b := 0) (by omega) (by omega)).mp q))]; rfl
        · rw [if_neg (by simpa using c)]; rfl
    · rw [e3, e4]; exact Or.inl ⟨_, rfl, rq_3 _ _ _ _, rfl⟩
  · rw [e1, e2]; exact Or.inl ⟨_, rfl, rq_3 _ _ _ _, rfl⟩
end Q
