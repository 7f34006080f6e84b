/-! ORDERS: ordered, number -/
theorem l_split (a1 : Int64) : a1 < 0 ∨ ∃ L, L < 2 ^ 63 ∧ a1 = lN L ∧ ¬ a1 < 0 := by
  by_cases h : a1 < 0
  · exact Or.inl h
  · obtain ⟨L, h1, h2⟩ := pk_lOf h
    exact Or.inr ⟨L, h1, h2, h⟩
section Q
variable {s r : RS} {B : Nat → Nat} {s0 s1 s3 s4 : RS} {len st b0 b2 b4 : Nat} {f3 : Nat → Option Nat}
theorem q_ordered (hB : blk (s.2.2.1 4) 0 B) (hw : wfB B) (hR : bkR B r) (hc : ctR len st s3 s4) (hst : st + 1 < 262144) (a0 : Int32) (a1 : Int64) :
    (∃ a s' s1' q z f', pX12_ordered s a0 a1 = some (a, s') ∧ oCh B s s' s1 s1' ∧ pX11_orderedF s0 s1 r s3 s4 b0 b2 b4 f3 a0 a1 = some (a, uI s0 11 (s'.1 0), s1', q, z, f') ∧ (∃ st', st' ≤ st + 1 ∧ ctR len st' q z) ∧ f' 5 = f3 5) ∨
    (∃ a s' s1' q z, pX12_ordered s a0 a1 = some (a, s') ∧ oCh B s s' s1 s1' ∧ pX11_orderedG s0 s1 r s3 s4 a0 a1 = some (nI (2 ^ B 0), a, uI s0 11 (s'.1 0), s1', q, z) ∧ ctR (2 ^ B 0) 1 q z ∧ len < 2 ^ B 0) := by
  have h16 := hw.1
  rcases why_set (s := uI s 1 0) (s0 := s0) (s1 := s1) hB hw hR a0 with ⟨t, ht, ht', rfl, hl, e1, e2⟩ | ⟨w, h9, e1, e2⟩
  · obtain ⟨u1, u2, k1, k2, k3, k4, k5, k6⟩ := r_count (s := uI (uI s 1 0) 0 0) (e := none) hB hw (fun ab h => by cases h) ht hl
    have k1' : pX12_need (uI (uI s 1 0) 0 0) (nI t) (-1 : Int32) (-1 : Int32) = some u1 := k1
    have k7 : u2.2.2.2 8 (0 : Int32).toNatClampNeg = lN (wy (B 0) t (ndE B none) 0) := k6 0 (sb_0 t)
    have rs : rsame s u2 := rs_sxB (rs_sx (rq_2 _ _ _) k3 (by decide)) k4 (by decide)
    have st0 : u2.1 0 = 0 := by rw [k4.1, k3.1]; rfl
    have b16 := bts_le t
    have wl := wy_lt (nd := ndE B none) h16 ht' (sb_0 t)
    have w0 : 0 < wy (B 0) t (ndE B none) 0 := wy_pos hw ht hl (B 0) 0 (by omega)
    have start : pX12_ordered s (nI t) a1 = (if a1 < (0 : Int64) ∨ lN (wy (B 0) t (ndE B none) 0) ≤ a1 then some ((-1 : Int32), uI u2 0 (5 : Int32)) else (a_loop (fun (q : Int64 × Int32 × Int32 × RS) => X12_ordered_b66 (nI t) q.1 q.2.1 q.2.2.1 q.2.2.2) FU (a1, (0 : Int32), (0 : Int32), u2)).bind fun (t14 : Int32 × RS) => g_in (118 : Int32) 1800 (thn (uA t14.2 4 (upd (t14.2.2.2.1 4) (118 : Int32).toNatClampNeg t14.1)) fun s15 => some (t14.1, s15))) := by
      unfold pX12_ordered
      simp only [thn_eq]
      rw [e1, ob_s, if_pos (show (uI (uI s 1 (0 : Int32)) 0 (0 : Int32)).1 0 ≤ 0 from (by decide : (0 : Int32) ≤ 0)), k1', ob_s, k2, ob_s, g_in0 _ (by omega) (by omega), k7]
      unfold pX12_isIn
      by_cases c1 : a1 < (0 : Int64)
      · rw [if_pos c1, if_pos (Or.inl c1)]; rfl
      · obtain ⟨L, h1, rfl⟩ := pk_lOf c1
        rw [if_neg c1, show (1 : Int64) = lN 1 from rfl, lN_sub (by omega)]
        by_cases c2 : wy (B 0) t (ndE B none) 0 ≤ L
        · rw [if_pos ((pk_lLT (by omega) (by omega)).mpr (by omega)), if_pos (Or.inr ((pk_lLE (by omega) (by omega)).mpr c2))]; rfl
        · rw [if_neg (fun q => by have := (pk_lLT (by omega) (by omega)).mp q; omega), if_neg (fun q => by
            rcases q with q | q
            · exact c1 q
            · exact c2 ((pk_lLE (by omega) (by omega)).mp q))]; rfl
    rcases l_split a1 with c1 | ⟨L, hL63, rfl, c1⟩
    · left
      refine ⟨-1, uI u2 0 5, s1, s3, s4, f3, ?_, Or.inl ⟨rs_uI rs _ (by decide), rfl⟩, ?_, ⟨st, by omega, hc⟩, rfl⟩
      · rw [start, if_pos (Or.inl c1)]
      · unfold pX11_orderedF X11_orderedF_j45
        rw [e2, ob_s, if_pos rfl, if_pos c1]; rfl
    · by_cases c2 : wy (B 0) t (ndE B none) 0 ≤ L
      · have eR : pX12_ordered s (nI t) (lN L) = some (-1, uI u2 0 5) := by rw [start, if_pos (Or.inr ((pk_lLE (by omega) (by omega)).mpr c2))]
        have nl : ¬ lN L < lN (wy (B 0) t (ndE B none) 0) := fun q => by have := (pk_lLT (by omega) (by omega)).mp q; omega
        rcases Nat.lt_or_ge t len with c | c
        · left
          obtain ⟨q, z, g1, g2, g3, g4⟩ := x_ordF hR hw hc hst ht c
          refine ⟨-1, uI u2 0 5, s1, q, z, va_up f3 0 (some b2), eR, Or.inl ⟨rs_uI rs _ (by decide), rfl⟩, ?_, ⟨st + 1, by omega, g4⟩, rfl⟩
          unfold pX11_orderedF X11_orderedF_j45
          rw [e2, ob_s, if_pos rfl, if_neg c1, g1, ob_s, if_neg nl]; rfl
        · right
          obtain ⟨q, z, g1, g2, g3, g4⟩ := x_ordG hR hw hc ht c
          refine ⟨-1, uI u2 0 5, s1, q, z, eR, Or.inl ⟨rs_uI rs _ (by decide), rfl⟩, ?_, g4, by omega⟩
          unfold pX11_orderedG pX11_orderedGh pX11_orderedGt
          rw [e2, ob_s, if_pos rfl, if_neg c1, ob_s]
          try dsimp only
          rw [g1, ob_s]
          try dsimp only
          rw [if_neg nl]; rfl
      · have hL : L < wy (B 0) t (ndE B none) 0 := by omega
        have yl : lN L < lN (wy (B 0) t (ndE B none) 0) := (pk_lLT (by omega) (by omega)).mpr hL
        obtain ⟨S', o1, o2, o3⟩ := r_writes (S := u2) hw ht hl k5 k6 hL
        have eR : pX12_ordered s (nI t) (lN L) = some (nI (bts t), uA S' 4 (upd (S'.2.2.1 4) 118 (nI (bts t)))) := by
          rw [start, if_neg (fun q => by
            rcases q with q | q
            · exact c1 q
            · exact c2 ((pk_lLE (by omega) (by omega)).mp q)), o1, ob_s]
          rw [show g_in (118 : Int32) 1800 = g_in (γ := Int32 × RS) (nI 118) 1800 from rfl, g_inT (by omega) (by omega), thn_eq]; rfl
        have ow := od_orW hw ht hL
        have hch : ∀ s1' : RS, s1'.2.2.1 2 = s1.2.2.1 2 → orC s1' (bts t) (odK (B 0) t (ndE B none) L) → oCh B s (uA S' 4 (upd (S'.2.2.1 4) 118 (nI (bts t)))) s1 s1' := fun s1' p1 p2 => by
          refine Or.inr ⟨rs4_sx (rs4_sx (rs4_of rs) o2) (sx_uA _ _ _), fun j hj => ?_, p1, bts t, odK (B 0) t (ndE B none) L, ⟨?_, fun k hk => ?_⟩, p2, ow⟩
          · rw [uA_at, upd_ne _ _ (by omega), o3, if_neg (by omega), rs.2.2.1.2.2.2.1]
          · rw [uA_at, upd_at]
          · rw [uA_at, upd_ne _ _ (by omega), o3, if_pos (by omega)]
            rw [show 119 + k - 119 = k by omega]
        have s0' : (uA S' 4 (upd (S'.2.2.1 4) 118 (nI (bts t)))).1 0 = 0 := by
          show S'.1 0 = 0
          rw [o2.1]; exact st0
        rcases Nat.lt_or_ge t len with c | c
        · left
          obtain ⟨q, z, g1, g2, g3, g4⟩ := x_ordF hR hw hc hst ht c
          obtain ⟨z', s', j1, j2, j3, j4⟩ := x_writeOrder (s1 := s1) hR hw g2 ht c hc.2.2.2 (by omega) g3 hL
          refine ⟨_, _, uI s' 4 (nI (bts t)), q, z', va_up f3 0 (some b2), eR, hch _ ?_ ⟨rfl, j4⟩, ?_, ⟨st + 1, by omega, g4.1, mm_dn j2, g4.2.2⟩, rfl⟩
          · show s'.2.2.1 2 = _
            exact j3.2.2.2 2 (by decide)
          · unfold pX11_orderedF X11_orderedF_j45
            rw [e2, ob_s, if_pos rfl, if_neg c1, g1, ob_s, if_pos yl, j1, ob_s, s0']; rfl
        · right
          obtain ⟨q, z, g1, g2, g3, g4⟩ := x_ordG hR hw hc ht c
          obtain ⟨z', s', j1, j2, j3, j4⟩ := x_writeOrder (s1 := s1) hR hw g2 ht ht g4.2.2.2 (by decide) g3 hL
          refine ⟨_, _, uI s' 4 (nI (bts t)), q, z', eR, hch _ ?_ ⟨rfl, j4⟩, ?_, ⟨g4.1, mm_dn j2, g4.2.2⟩, by omega⟩
          · show s'.2.2.1 2 = _
            exact j3.2.2.2 2 (by decide)
          · unfold pX11_orderedG pX11_orderedGh pX11_orderedGt
            rw [e2, ob_s, if_pos rfl, if_neg c1, ob_s]
            try dsimp only
            rw [g1, ob_s]
            try dsimp only
            rw [if_pos yl, j1, ob_s, s0']; rfl
  · left
    refine ⟨-1, uI (uI s 1 0) 0 w, s1, s3, s4, f3, ?_, Or.inl ⟨rq_2 _ _ _, rfl⟩, ?_, ⟨st, by omega, hc⟩, rfl⟩
    · unfold pX12_ordered
      simp only [thn_eq]
      rw [e1, ob_s, if_neg (show ¬ (uI (uI s 1 (0 : Int32)) 0 w).1 0 ≤ 0 from (w_le h9).1)]
    · unfold pX11_orderedF
      rw [e2, ob_s, if_neg (w_le h9).2]; rfl
end Q
theorem opf_tb (O : Nat → Nat) (i : Nat) : ∀ n, (opf O n).testBit i = anN (fun k => decide (O k = i)) n
  | 0 => Nat.zero_testBit i
  | n + 1 => by
    show (opf O n ||| 2 ^ O n).testBit i = _
    rw [Nat.testBit_or, p2_tb, opf_tb O i n, anN_s]
theorem opf_lt {B : Nat → Nat} {n : Nat} {O : Nat → Nat} (h : orW B n O) : ∀ k, k ≤ n → opf O k < 2 ^ B 0
  | 0, _ => Nat.two_pow_pos _
  | k + 1, hk => or_lt (opf_lt h k (by omega)) (p2_lt (h.2 k (by omega)).1)
theorem opf_sub (O : Nat → Nat) : ∀ {i n : Nat}, i ≤ n → sbN (opf O i) (opf O n) := fun {i n} h j hj => by
  rw [opf_tb] at hj ⊢
  obtain ⟨k, hk, e⟩ := anN_iff.mp hj
  exact anN_iff.mpr ⟨k, by omega, e⟩
theorem opf_lk {B : Nat → Nat} {n : Nat} {O : Nat → Nat} (h : orW B n O) : ∀ k, k ≤ n → lk B (opf O k) = 0 := by
  intro k hk
  rw [lk_iff]
  intro c hc hb i hi
  rw [opf_tb] at hb
  obtain ⟨j, hj, e⟩ := anN_iff.mp hb
  have e : O j = c := of_decide_eq_true e
  have h3 := (h.2 j (by omega)).2.2
  rw [e] at h3
  have h4 := bdf_tb (B (98 + c)) (opf O j) i
  rw [h3, Nat.zero_testBit, hi] at h4
  have h5 : (opf O j).testBit i = true := by
    cases q : (opf O j).testBit i with
    | true => rfl
    | false => rw [q] at h4; cases h4
  exact opf_sub O (by omega : j ≤ k) i h5
section N
variable {s : RS} {B : Nat → Nat} {n : Nat} {O : Nat → Nat}
theorem r_orderSet (ho : orR (s.2.2.1 4) n O) (hw : wfB B) (hO : orW B n O) : pX12_orderSet s = some (nI (opf O n)) := by
  have h16 := hw.1
  have n16 := hO.1
  have hb : s.2.2.1 4 (118 : Int32).toNatClampNeg = nI n := ho.1
  unfold pX12_orderSet
  refine bd (lp_acc (fun k => opf O k) n (by omega) (fun k hk => ?_) ?_) rfl
  · dsimp only [X12_orderSet_b4]
    have := (hO.2 k hk).1
    rw [hb, show g_in (118 : Int32) 1800 = g_in (γ := (Int32 × Int32) ⊕ Int32) (nI 118) 1800 from rfl, g_inT (by omega) (by omega), if_neg (nI_ge hk (by omega)), show (119 : Int32) = nI 119 from rfl, nI_add, g_inT (by omega) (by omega), nI_clamp (by omega), ho.2 k hk, show (1 : Int32) <<< (nI (O k) &&& 31) = nI (2 ^ O k) from s1I (by omega), orI, thn_eq, thn_eq, nI_1]; rfl
  · dsimp only [X12_orderSet_b4]
    rw [hb, show g_in (118 : Int32) 1800 = g_in (γ := (Int32 × Int32) ⊕ Int32) (nI 118) 1800 from rfl, g_inT (by omega) (by omega), if_pos (nI_le (Nat.le_refl _) (by omega))]
/-- the number of the ORDER -/
def nbN (B : Nat → Nat) (n : Nat) (O : Nat → Nat) : Nat := smN (fun i => smN (gS (B 0) (opf O n) (ndE B none) (opf O i)) (O i)) n
theorem r_number {S : RS} (ho : orR (S.2.2.1 4) n O) (hw : wfB B) (hO : orW B n O) (hn : ∀ k, k < B 0 → S.2.2.1 9 k = nI (ndR B (opf O n) none k) ∧ ndR B (opf O n) none k < 65536) (hW : ∀ P, sbN P (opf O n) → S.2.2.2 8 P = lN (wy (B 0) (opf O n) (ndE B none) P)) : a_loop (fun (q : Int64 × Int32 × Int32) => X12_number_b35 (nI (opf O n)) q.1 q.2.1 q.2.2 S) FU ((0 : Int64), (0 : Int32), (0 : Int32)) = some (lN (nbN B n O)) := by
  have h16 := hw.1
  have n16 := hO.1
  have hb : S.2.2.1 4 (118 : Int32).toNatClampNeg = nI n := ho.1
  have w2 := opf_lt hO n (Nat.le_refl _)
  have cl := opf_lk hO n (Nat.le_refl _)
  have p16 : 2 ^ B 0 ≤ 2 ^ 16 := Nat.pow_le_pow_right (by decide) h16
  have w6 : opf O n < 65536 := by omega
  refine lp_f (fun i => (lN (smN (fun i => smN (gS (B 0) (opf O n) (ndE B none) (opf O i)) (O i)) i), nI (opf O i), nI i)) n (by omega) (fun i hi => ?_) ?_
  · dsimp only [X12_number_b35]
    have oi := (hO.2 i hi).1
    have P6 : opf O i < 65536 := by have := opf_lt hO i (by omega); omega
    have d6 : bdf (opf O n) (opf O i) < 65536 := bdf_lt (n := 16) w6
    have inner : ∀ acc : Nat, a_loop (fun (q : Int64 × Int32) => X12_number_b62 (nI (opf O n)) (nI (opf O i)) (nI i) (nI (O i)) q.1 q.2 S) FU (lN acc, (0 : Int32)) = some (lN (acc + smN (gS (B 0) (opf O n) (ndE B none) (opf O i)) (O i))) := by
      intro acc
      refine lp_f (fun k => (lN (acc + smN (gS (B 0) (opf O n) (ndE B none) (opf O i)) k), nI k)) (O i) (by omega) (fun k hk => ?_) ?_
      · dsimp only [X12_number_b62, X12_number_j113]
        obtain ⟨n1, n2⟩ := hn k (by omega)
        have n3 : bdf (ndR B (opf O n) none k) (opf O i) < 65536 := bdf_lt (n := 16) n2
        have p6 : 2 ^ k < 65536 := p2_lt (n := 16) (by omega)
        have o6 : opf O i ||| 2 ^ k < 65536 := or_lt (n := 16) P6 p6
        rw [if_neg (nI_ge hk (by omega)), show (-1 : Int32) = m1I from rfl, dfI, hasT (by omega) (by omega), ob_s, nI_clamp (by omega), n1, dfI, bdf_tb, show (0 : Int32) = nI 0 from rfl, ifE (by omega) (by omega), show (1 : Int32) <<< (nI k &&& 31) = nI (2 ^ k) from s1I (by omega), orI, nI_clamp (by omega), smN_s]
        simp only [thn_eq, nI_1]
        have hg : gS (B 0) (opf O n) (ndE B none) (opf O i) k = if (opf O n).testBit k && !(opf O i).testBit k && bdf (ndE B none k) (opf O i) == 0 then wy (B 0) (opf O n) (ndE B none) (opf O i ||| 2 ^ k) else 0 := rfl
        rw [hg]
        cases c1 : (opf O n).testBit k with
        | false => rfl
        | true =>
          cases c2 : (opf O i).testBit k with
          | true => rfl
          | false =>
            have e0 : ndR B (opf O n) none k = ndE B none k := ndR_E w2 cl k c1
            rw [e0]
            by_cases c3 : bdf (ndE B none k) (opf O i) = 0
            · have c3' : (bdf (ndE B none k) (opf O i) == 0) = true := by simpa using c3
              rw [c3', if_pos c3, hW _ (sb_or (opf_sub O (by omega)) c1), g_inT (by omega) (by omega), g_inT (by omega) (by omega), lN_add, Nat.add_assoc]; rfl
            · have c3' : (bdf (ndE B none k) (opf O i) == 0) = false := by simpa using c3
              rw [c3', if_neg c3, g_inT (by omega) (by omega)]; rfl
      · dsimp only [X12_number_b62]
        rw [if_pos (nI_le (Nat.le_refl _) (by omega))]
    rw [hb, show g_in (118 : Int32) 1800 = g_in (γ := (Int64 × Int32 × Int32) ⊕ Int64) (nI 118) 1800 from rfl, g_inT (by omega) (by omega), if_neg (nI_ge hi (by omega)), show (119 : Int32) = nI 119 from rfl, nI_add, g_inT (by omega) (by omega), nI_clamp (by omega), ho.2 i hi, thn_eq, inner, ob_s, show (1 : Int32) <<< (nI (O i) &&& 31) = nI (2 ^ O i) from s1I (by omega), orI, thn_eq, thn_eq, nI_1, smN_s]; rfl
  · dsimp only [X12_number_b35]
    rw [hb, show g_in (118 : Int32) 1800 = g_in (γ := (Int64 × Int32 × Int32) ⊕ Int64) (nI 118) 1800 from rfl, g_inT (by omega) (by omega), if_pos (nI_le (Nat.le_refl _) (by omega))]; rfl
end N
