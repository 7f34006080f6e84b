/-! ORDERS: what stands where, acts, swaps of neighbours; what islands have -/
theorem g118 {γ : Type} (e : Option γ) : g_in (118 : Int32) 1800 e = e := g_inT (a := 118) (by omega) (by omega)
theorem isInM2 (a0 : Int32) {m : Nat} (hm : m < 2 ^ 30) : (∃ t, t + 1 < m ∧ a0 = nI t ∧ pX12_isIn a0.toInt64 (0 : Int64) ((nI m - (2 : Int32)).toInt64) = some true) ∨ (pX12_isIn a0.toInt64 (0 : Int64) ((nI m - (2 : Int32)).toInt64) = some false ∧ (outI a0 m ∨ ∃ t, t < m ∧ m ≤ t + 1 ∧ a0 = nI t)) := by
  have e : (nI m - 2).toInt = (m : Int) - 2 := pk_sub_toInt (b := 2) hm (by omega)
  rw [w0, isIn_w]
  rcases isInM a0 (m := m) (by omega) with ⟨t, ht, rfl, _, h1, h2, h3⟩ | ⟨_, h⟩
  · rcases Nat.lt_or_ge (t + 1) m with c | c
    · refine Or.inl ⟨t, c, rfl, ?_⟩
      rw [if_neg h1, if_neg]
      rw [Int32.lt_iff_toInt_lt, e, nI_toInt (by omega)]
      omega
    · refine Or.inr ⟨?_, Or.inr ⟨t, ht, c, rfl⟩⟩
      rw [if_neg h1, if_pos]
      rw [Int32.lt_iff_toInt_lt, e, nI_toInt (by omega)]
      omega
  · refine Or.inr ⟨?_, Or.inl h⟩
    rcases h with h | ⟨h1, h2, h3⟩
    · rw [if_pos h]
    · rw [if_neg h1, if_pos]
      rw [Int32.le_iff_toInt_le, nI_toInt (by omega)] at h2
      rw [Int32.lt_iff_toInt_lt, e]
      omega
section X
variable {s1 : RS} {n : Nat} {O : Nat → Nat}
theorem x_inOrd (ho : s1.1 4 = nI n) (hn : n ≤ 16) {k : Nat} (hk : k < 2 ^ 31) : pX7_isInOrder s1 (nI k) = some (decide (k < n)) := by
  unfold pX7_isInOrder
  rw [ho, if_neg (show ¬ nI k < 0 from nI_pos hk)]
  by_cases c : k < n
  · rw [if_neg (nI_ge c (by omega)), decide_eq_true c]
  · rw [if_pos (nI_le (by omega) hk), decide_eq_false c]
theorem x_inOrdO (ho : s1.1 4 = nI n) {a0 : Int32} (h : outI a0 n) : pX7_isInOrder s1 a0 = some false := by
  unfold pX7_isInOrder
  rw [ho]
  rcases h with h | ⟨h1, h2, h3⟩
  · rw [if_pos h]
  · rw [if_neg h1, if_pos h2]
end X
section Q
variable {s r : RS} {B : Nat → Nat} {s0 s1 s3 : RS} {n : Nat} {O : Nat → Nat}
theorem q_orderAt (hw : wfB B) (hO : orW B n O) (ho : orR (s.2.2.1 4) n O) (ho1 : orC s1 n O) (a0 : Int32) : qq s s0 (pX12_orderAt s a0) (pX11_orderAt s0 s1 a0) := by
  have n16 := hO.1
  have hb : (uI (uI s 1 (0 : Int32)) 0 (0 : Int32)).2.2.1 4 (118 : Int32).toNatClampNeg = nI n := ho.1
  unfold pX12_orderAt pX11_orderAt
  simp only [thn_eq]
  rw [g118, hb]
  rcases isInM a0 (m := n) (by omega) with ⟨t, ht, rfl, e, _⟩ | ⟨e, h⟩
  · have hv : (uI (uI s 1 (0 : Int32)) 0 (0 : Int32)).2.2.1 4 (119 + t) = nI (O t) := ho.2 t ht
    rw [e, ob_s, if_pos rfl, x_inOrd ho1.1 n16 (by omega), decide_eq_true ht, ob_s, if_pos rfl, show (119 : Int32) = nI 119 from rfl, nI_add, g_inT (by omega) (by omega), g_inT (by omega) (by omega), nI_clamp (by omega), nI_clamp (by omega), hv, ho1.2 t ht]
    exact ⟨_, _, rfl, rq_2 _ _ _, rfl⟩
  · rw [e, ob_s, if_neg (by decide), x_inOrdO ho1.1 h, ob_s, if_neg (by decide)]
    exact ⟨_, _, rfl, rq_3 _ _ _ _, rfl⟩
theorem x_firstOf (hw : wfB B) (hO : orW B n O) (ho1 : orC s1 n O) {m : Nat} (hm : m ≤ n) : pX7_firstOfOrder s1 (nI m) = some (nI (opf O m)) := by
  have h16 := hw.1
  have n16 := hO.1
  unfold pX7_firstOfOrder
  refine bd (lp_acc (fun k => opf O k) m (by omega) (fun k hk => ?_) ?_) rfl
  · dsimp only [X7_firstOfOrder_b4]
    have := (hO.2 k (by omega)).1
    rw [if_neg (nI_ge hk (by omega)), ho1.1, if_neg (nI_ge (by omega) (by omega)), g_inT (by omega) (by omega), nI_clamp (by omega), ho1.2 k (by omega), show (1 : Int32) <<< (nI (O k) &&& 31) = nI (2 ^ O k) from s1I (by omega), orI, thn_eq, thn_eq, nI_1]; rfl
  · dsimp only [X7_firstOfOrder_b4]
    rw [if_pos (nI_le (Nat.le_refl _) (by omega))]
theorem q_acts (hB : blk (s.2.2.1 4) 0 B) (hw : wfB B) (hR : bkR B r) (hO : orW B n O) (ho : orR (s.2.2.1 4) n O) (ho1 : orC s1 n O) (a0 : Int32) : qL s s0 (pX12_acts s a0) (pX11_acts s0 s1 r s3 a0) := by
  have h16 := hw.1
  have n16 := hO.1
  have p16 : 2 ^ B 0 ≤ 2 ^ 16 := Nat.pow_le_pow_right (by decide) h16
  have hb : (uI (uI s 1 (0 : Int32)) 0 (0 : Int32)).2.2.1 4 (118 : Int32).toNatClampNeg = nI n := ho.1
  unfold pX12_acts pX11_acts
  simp only [thn_eq]
  rw [g118, hb]
  rcases isInM a0 (m := n) (by omega) with ⟨k, hk, rfl, e, _⟩ | ⟨e, h⟩
  · have hv : (uI (uI s 1 (0 : Int32)) 0 (0 : Int32)).2.2.1 4 (119 + k) = nI (O k) := ho.2 k hk
    obtain ⟨o1, o2, o3⟩ := hO.2 k hk
    have P6 : opf O k < 65536 := by have := opf_lt hO k (by omega); omega
    have P7 : opf O (k + 1) < 65536 := by have := opf_lt hO (k + 1) (by omega); omega
    have k4 := (hw.2.2 (O k) o1).1
    have tb := thB_lt hw o1
    have part : a_loop (fun (q : Int32 × Int32) => X12_acts_b40 (nI k) q.1 q.2 (uI (uI s 1 (0 : Int32)) 0 (0 : Int32))) FU ((0 : Int32), (0 : Int32)) = some (nI (opf O k)) := by
      refine lp_acc (fun k => opf O k) k (by omega) (fun j hj => ?_) ?_
      · dsimp only [X12_acts_b40]
        have := (hO.2 j (by omega)).1
        have hvj : (uI (uI s 1 (0 : Int32)) 0 (0 : Int32)).2.2.1 4 (119 + j) = nI (O j) := ho.2 j (by omega)
        rw [if_neg (nI_ge hj (by omega)), show (119 : Int32) = nI 119 from rfl, nI_add, g_inT (by omega) (by omega), nI_clamp (by omega), hvj, show (1 : Int32) <<< (nI (O j) &&& 31) = nI (2 ^ O j) from s1I (by omega), orI, thn_eq, thn_eq, nI_1]; rfl
      · dsimp only [X12_acts_b40]
        rw [if_pos (nI_le (Nat.le_refl _) (by omega))]
    have b4 := (hR.2.2.2 (O k) o1).1
    have b7 := (hR.2.2.2 (O k) o1).2.2.2.1
    rw [e, ob_s, if_pos rfl, part, ob_s, show (119 : Int32) = nI 119 from rfl, nI_add, g_inT (by omega) (by omega), nI_clamp (by omega), hv, r_kind (s := uI (uI s 1 0) 0 0) hB (by omega), ob_s, ob_s, x_inOrd ho1.1 n16 (by omega), decide_eq_true hk, ob_s, if_pos rfl, g_inT (by omega) (by omega), nI_clamp (by omega), ho1.2 k hk, g_inT (by omega) (by omega), nI_clamp (by omega), b4]
    by_cases c4 : B (2 + O k) = 4
    · rw [c4, if_pos (show nI 4 = (4 : Int32) from rfl), if_pos (show nI 4 = (4 : Int32) from rfl)]
      exact ⟨_, _, s3, rfl, rq_2 _ _ _, rfl⟩
    · have c4' : ¬ nI (B (2 + O k)) = (4 : Int32) := fun q => c4 ((nI_eq (b := 4) (by omega) (by omega)).mp q)
      rw [if_neg c4', if_neg c4']
      by_cases c0 : B (2 + O k) = 0
      · have th0 : thB B (O k) = O k := thB_put c0
        have e6 : nI (opf O k) ||| (1 : Int32) <<< (nI (O k) &&& 31) = nI (opf O (k + 1)) := by
          rw [show (1 : Int32) <<< (nI (O k) &&& 31) = nI (2 ^ O k) from s1I (by omega), orI]; rfl
        obtain ⟨s', h1, h2, h3⟩ := r_placeIn (s := uI (uI s 1 0) 0 0) hB hw P7 o1
        obtain ⟨q', f1, f2⟩ := x_fill hR hw hB.2 P7 s3
        unfold X11_acts_j78
        rw [c0, if_pos (show nI 0 = (0 : Int32) from rfl), if_pos (show nI 0 = (0 : Int32) from rfl), e6, h1, ob_s, nI_1, x_firstOf hw hO ho1 (by omega), ob_s, f1, ob_s, g_inT (by omega) (by omega), nI_clamp (by omega), b7, th0, x_placeOf hw o1 f2, ob_s]
        refine ⟨_, s', q', rfl, rs_tr (rq_2 _ _ _) h3, ?_⟩
        rw [h2]; rfl
      · have c0' : ¬ nI (B (2 + O k)) = (0 : Int32) := fun q => c0 ((nI_eq (b := 0) (by omega) (by omega)).mp q)
        obtain ⟨s', h1, h2, h3⟩ := r_placeIn (s := uI (uI s 1 0) 0 0) hB hw P6 (k := thB B (O k)) (by omega)
        obtain ⟨q', f1, f2⟩ := x_fill hR hw hB.2 P6 s3
        unfold X11_acts_j78
        rw [if_neg c0', if_neg c0', r_thingOf (s := uI (uI s 1 0) 0 0) hB hw o1, ob_s, h1, ob_s, x_firstOf hw hO ho1 (by omega), ob_s, f1, ob_s, g_inT (by omega) (by omega), nI_clamp (by omega), b7, x_placeOf hw (by omega) f2, ob_s]
        refine ⟨_, s', q', rfl, rs_tr (rq_2 _ _ _) h3, ?_⟩
        rw [h2]; rfl
  · rw [e, ob_s, if_neg (by decide), x_inOrdO ho1.1 h, ob_s, if_neg (by decide)]
    exact ⟨_, _, s3, rfl, rq_3 _ _ _ _, rfl⟩
end Q
/-- two neighbours in turn -/
def swp (O : Nat → Nat) (p : Nat) : Nat → Nat := fun i => if i = p then O (p + 1) else if i = p + 1 then O p else O i
theorem swp_lo (O : Nat → Nat) (p : Nat) : ∀ i, i ≤ p → opf (swp O p) i = opf O i
  | 0, _ => rfl
  | i + 1, h => by
    show opf (swp O p) i ||| 2 ^ swp O p i = opf O i ||| 2 ^ O i
    rw [swp_lo O p i (by omega), show swp O p i = O i by unfold swp; rw [if_neg (by omega), if_neg (by omega)]]
theorem swp_2 (O : Nat → Nat) (p : Nat) : opf (swp O p) (p + 2) = opf O (p + 2) := by
  show opf (swp O p) p ||| 2 ^ swp O p p ||| 2 ^ swp O p (p + 1) = opf O p ||| 2 ^ O p ||| 2 ^ O (p + 1)
  rw [swp_lo O p p (Nat.le_refl _), show swp O p p = O (p + 1) from if_pos rfl, show swp O p (p + 1) = O p by unfold swp; rw [if_neg (by omega), if_pos rfl], or_comm3]
theorem swp_hi (O : Nat → Nat) (p : Nat) : ∀ d, opf (swp O p) (p + 2 + d) = opf O (p + 2 + d)
  | 0 => swp_2 O p
  | d + 1 => by
    show opf (swp O p) (p + 2 + d) ||| 2 ^ swp O p (p + 2 + d) = opf O (p + 2 + d) ||| 2 ^ O (p + 2 + d)
    rw [swp_hi O p d, show swp O p (p + 2 + d) = O (p + 2 + d) by unfold swp; rw [if_neg (by omega), if_neg (by omega)]]
theorem bdf_sub {a P : Nat} : bdf a P = 0 ↔ sbN a P := by
  constructor
  · intro h i hi
    have h1 := bdf_tb a P i
    rw [h, Nat.zero_testBit, hi] at h1
    cases e : P.testBit i with
    | true => rfl
    | false => rw [e] at h1; cases h1
  · intro h
    apply Nat.eq_of_testBit_eq
    intro i
    rw [bdf_tb, Nat.zero_testBit]
    cases e : a.testBit i with
    | false => rfl
    | true => rw [h i e]; rfl
theorem orW_swp {B : Nat → Nat} (hw : wfB B) {n : Nat} {O : Nat → Nat} (hO : orW B n O) {p : Nat} (hp : p + 1 < n) (hd : (B (82 + O (p + 1))).testBit (O p) = false) : orW B n (swp O p) := by
  have s0 : swp O p p = O (p + 1) := if_pos rfl
  have s1 : swp O p (p + 1) = O p := by unfold swp; rw [if_neg (by omega), if_pos rfl]
  obtain ⟨a1, a2, a3⟩ := hO.2 p (by omega)
  obtain ⟨b1, b2, b3⟩ := hO.2 (p + 1) hp
  have b2' : (opf O p ||| 2 ^ O p).testBit (O (p + 1)) = false := b2
  rw [Nat.testBit_or, p2_tb] at b2'
  obtain ⟨c1, c2⟩ := Bool.or_eq_false_iff.mp b2'
  have ne : O p ≠ O (p + 1) := of_decide_eq_false c2
  refine ⟨hO.1, fun k hk => ?_⟩
  by_cases e1 : k = p
  · subst e1
    rw [s0, swp_lo O k k (Nat.le_refl _)]
    refine ⟨b1, c1, bdf_sub.mpr (fun i hi => ?_)⟩
    have h1 := bdf_sub.mp b3 i hi
    have h1' : (opf O k ||| 2 ^ O k).testBit i = true := h1
    rw [Nat.testBit_or, p2_tb] at h1'
    rcases Bool.or_eq_true_iff.mp h1' with q | q
    · exact q
    · exfalso
      have ei : O k = i := of_decide_eq_true q
      subst ei
      have hh := (hw.2.2 (O (k + 1)) b1).2.2.2.1
      rw [hh, hd, Bool.false_or] at hi
      obtain ⟨j, hj, hq⟩ := anN_iff.mp hi
      obtain ⟨q1, q2⟩ := Bool.and_eq_true_iff.mp hq
      have hj2 : (B (98 + O (k + 1))).testBit j = true := by rw [hh, q1]; rfl
      have h2 : (opf O k ||| 2 ^ O k).testBit j = true := bdf_sub.mp b3 j hj2
      rw [Nat.testBit_or, p2_tb] at h2
      rcases Bool.or_eq_true_iff.mp h2 with v | v
      · rw [opf_tb] at v
        obtain ⟨m, hm, em⟩ := anN_iff.mp v
        have em : O m = j := of_decide_eq_true em
        have h3 := (hO.2 m (by omega)).2.2
        rw [em] at h3
        have h4 := opf_sub O (show m ≤ k by omega) _ (bdf_sub.mp h3 _ q2)
        rw [a2] at h4; cases h4
      · have : O k = j := of_decide_eq_true v
        rw [← this, hd] at q1; cases q1
  · by_cases e2 : k = p + 1
    · subst e2
      rw [s1]
      have e : opf (swp O p) (p + 1) = opf O p ||| 2 ^ O (p + 1) := by
        show opf (swp O p) p ||| 2 ^ swp O p p = _
        rw [swp_lo O p p (Nat.le_refl _), s0]
      rw [e]
      refine ⟨a1, ?_, bdf_sub.mpr (fun i hi => ?_)⟩
      · rw [Nat.testBit_or, a2, p2_tb]
        exact decide_eq_false (fun q => ne q.symm)
      · rw [Nat.testBit_or, bdf_sub.mp a3 i hi]; rfl
    · have e : swp O p k = O k := by unfold swp; rw [if_neg e1, if_neg e2]
      rw [e]
      have e3 : opf (swp O p) k = opf O k := by
        rcases Nat.lt_or_ge k p with q | q
        · exact swp_lo O p k (by omega)
        · have := swp_hi O p (k - (p + 2))
          rwa [show p + 2 + (k - (p + 2)) = k by omega] at this
      rw [e3]
      exact hO.2 k hk
