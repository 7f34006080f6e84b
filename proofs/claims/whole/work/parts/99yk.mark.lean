/-! THE LAW: mark, back -/
section P
variable {l : Launch} {b0 mo k c : Nat} {H : aH} {Ω : oT}
theorem stO_1 {a : Nat} {Ω Ω2 : oT} {cc : Nat → Int32} {w : Nat → Int64} (hk : ∀ K : Nat × Nat, K.1 = 0 ∨ K.1 = 3 → Ω2 K = Ω K) (h7 : Ω2 (7, a) = Ω (7, a)) (h : stO Ω a cc w) : stO Ω2 a cc w := by
  obtain ⟨h1, bk, h2, h3, h4⟩ := h
  have e7 := v_eq h7
  have e0 := v_eq (hk (0, bk) (Or.inl rfl))
  refine ⟨e7.1.mpr h1, bk, by rw [e7.2.1]; exact h2, e0.1.mpr h3, ?_⟩
  rw [e7.2.1, e7.2.2, e0.2.2]
  rcases h4 with h4 | ⟨lb, h5, h6, h7⟩
  · exact Or.inl h4
  · have e3 := v_eq (hk (3, lb) (Or.inr rfl))
    exact Or.inr ⟨lb, h5, e3.1.mpr h6, by rw [e3.2.2]; exact h7⟩
theorem stR_7 {cc : Nat → Int32} {w : Nat → Int64} {s7 r q q' : RS} {L : Option RS} (hq : cfC q s7 q') (h : stR cc w s7 r L) : stR cc w q' r L := by
  obtain ⟨B, nm, nmI, O, Hh, nO, a1, a2, a3, a4, a5, a6, a7, a8, a9, a10, a11, a12⟩ := h
  have h4 := a2.2.1
  have hn := a9.1
  exact ⟨B, nm, nmI, O, Hh, nO, a1, a2, a3, a4, a5, a6, fun i hi => (hq.2.1 i hi).trans (a7 i hi), a8, a9, a10, ⟨hq.1.trans a11.1, fun i hi => (hq.2.2 i (by omega)).trans (a11.2 i hi)⟩, a12⟩
theorem iv_M {s' : RS} {L : List XR} {i j m : Nat} {f : Nat → Option Nat} (hI : IV b0 mo k c Ω) (hA : ∀ K : Nat × Nat, K.1 ≠ 11 → K.1 ≠ 7 → oU L Ω K = Ω K) (h11 : oU L Ω (11, b0) = some (f, uI (uI (vS Ω (11, b0)) 10 (nI m)) 11 (nI 0))) (hs : cpS (vS Ω (13, mo)) s' i j) (h0 : s'.1 0 = nI 0) (hmk : mks b0 (oU L Ω) s' (uI (uI (vS Ω (11, b0)) 10 (nI m)) 11 (nI 0))) (hnow : stO (oU L Ω) (b0 + 8) (s'.2.2.1 4) (s'.2.2.2 5)) : IV b0 mo (k + 1) c (oU [(13, mo, fZ, s')] (oU L Ω)) := by
  obtain ⟨p, hr, hct, hm, hn⟩ := hI
  have B : ∀ K, vI Ω K → vI (oU [(13, mo, fZ, s')] (oU L Ω)) K := fun K h => oU_I (oU_I h)
  have e13 : vS (oU [(13, mo, fZ, s')] (oU L Ω)) (13, mo) = s' := (v_of (f := fZ) ((oU1 _ _ _).trans (if_pos rfl))).2.2
  have E : ∀ K : Nat × Nat, K.1 ≠ 13 → oU [(13, mo, fZ, s')] (oU L Ω) K = oU L Ω K := fun K h => by
    rw [oU1, if_neg (fun e => h (by rw [e]))]
  have e11 : vS (oU [(13, mo, fZ, s')] (oU L Ω)) (11, b0) = uI (uI (vS Ω (11, b0)) 10 (nI m)) 11 (nI 0) := (v_of ((E (11, b0) (by show 11 ≠ 13; decide)).trans h11)).2.2
  have e8 := (v_eq ((E (8, b0 + 2) (by show 8 ≠ 13; decide)).trans (hA (8, b0 + 2) (by show 8 ≠ 11; decide) (by show 8 ≠ 7; decide)))).2.2
  have e9 : (fun i => vS (oU [(13, mo, fZ, s')] (oU L Ω)) (9, b0 + 79 + 2 * i)) = fun i => vS Ω (9, b0 + 79 + 2 * i) := funext fun i => (v_eq ((E (9, b0 + 79 + 2 * i) (by show 9 ≠ 13; decide)).trans (hA (9, b0 + 79 + 2 * i) (by show 9 ≠ 11; decide) (by show 9 ≠ 7; decide)))).2.2
  obtain ⟨p1, p2, p3, p4, p5, p6, p7⟩ := p
  obtain ⟨⟨c1, c2, c3, c4⟩, c5, c6, c7, c8, c9⟩ := hs
  refine ⟨⟨B _ p1, B _ p2, B _ p3, B _ p4, B _ p5, B _ p6, fun i hi => B _ (p7 i hi)⟩, ?_, ?_, ?_, ?_⟩
  · rw [e13, e11, e8, e9]
    obtain ⟨⟨a1, a2, a3⟩, ⟨a4, a5⟩, ⟨⟨n, a6⟩, a7, a8, a9⟩, a10⟩ := hr
    exact ⟨⟨h0, by rw [c5]; exact a2, by rw [c5]; exact a3⟩, ⟨c4.trans a4, fun q x hx => by rw [c6 14 (by decide)]; exact a5 (by rw [← c4]; exact q) x hx⟩, ⟨⟨n, tpR_cg c1 (c6 3 (by decide)) a6⟩, c2.trans a7, c3.trans a8, a9⟩, fun x hx => trR_cg (c6 0 (by decide)) (c6 1 (by decide)) (c8 2 (by decide)) (a10 x hx)⟩
  · exact cnt_eq hct (fun K hK _ => (E K (by omega)).trans (hA K (by omega) (by omega)))
  · rw [e13, e11]
    obtain ⟨m1, m2, m3, m4, m5, m6⟩ := hmk
    exact ⟨fun x hx => oU_I (m1 x hx), m2, m3, m4, m5, fun x hx => stO_eq (fun K hK => E K (by omega)) (m6 x hx)⟩
  · rw [e13]
    exact stO_eq (fun K hK => E K (by omega)) hnow
theorem blC_in {α : Type} {w i j : Nat} (f : Nat → α) {x : Nat} (h : x < w) : blC w i j f w (w * j + x) = f (w * i + x) := by
  unfold blC
  rw [if_pos ⟨by omega, by omega⟩, show w * j + x - w * j = x by omega]
theorem blC_no {α : Type} {w i j : Nat} (f : Nat → α) {x : Nat} (h : ¬ (w * j ≤ x ∧ x < w * j + w)) : blC w i j f w x = f x := if_neg h
theorem m_mark (hI : INV b0 mo k H) : two l b0 mo k yX11_mark yX12_mark cX11_mark cX12_mark 1 1 (some .int) [] H := by
  obtain ⟨Ω, c, hO, hh, hV, hr1, hr2⟩ := hI
  obtain ⟨hm1, m, hm3, h22, h10, hmk⟩ := hV.2.2.2.1
  have h11 := v_some hV.1.2.1
  by_cases e3 : m = 3
  · rw [e3] at h22 h10
    obtain ⟨a, s', e1, e2, e3⟩ := q_markE h22 h10
    have hm : oM Ω [(11, b0, vF Ω (11, b0), vS Ω (11, b0))] := ⟨h11, trivial⟩
    have c1 := pX11_markE_ok (l := l) (h := H) (b0 := b0) (f0 := vF Ω (11, b0)) (wO_ok hO hm (by simp)) (vS Ω (11, b0)) _ e3
    rw [wO_lay hO hm] at c1
    exact two_of (tw (L := [(11, b0, vF Ω (11, b0), uI (vS Ω (11, b0)) 11 (s'.1 0))]) (s' := s') hO hh (oS_of hm rfl) hV.1.1 (by simp) c1 (fun h hh => pX12_mark_ok hh _ (a, s') e1) (iv_q hV (by simp) ((oUc _ _ _ _).trans (if_pos rfl)) e2) (by omega) (by omega)) (by decide) (by decide)
  · have hm : m < 3 := by omega
    have ha := v_some (hm1 m hm)
    have ne8 : b0 + 8 ≠ b0 + 87 + 17 * m := by omega
    have hnow := hV.2.2.2.2
    obtain ⟨i7, bk, g0, i0, g4⟩ := hnow
    have h7 := v_some i7
    have h0 := v_some i0
    obtain ⟨s', e1, es, e22, e0⟩ := r_mark (s := vS Ω (13, mo)) hm h22
    have hK : ∀ q, pX11_markh (vS Ω (11, b0)) = some q → vp_in q 3 → b0 + 87 + 17 * q.toNatClampNeg = b0 + 87 + 17 * m := fun q hq _ => by
      rw [(x_mark (s1 := z0) (s2 := z0) (s3 := z0) (s4 := z0) hm h10).2.2] at hq
      cases hq
      rw [nI_clamp (by omega)]
    have fin : ∀ (f' : Nat → Option Nat) (q' : RS) (H1 : aH), aMet l 4 yX11_mark cX11_mark 1 (some .int) [.ref b0] H (some (.int (nI (m + 1)))) H1 → wO H1 (oU [(11, b0, vF Ω (11, b0), uI (uI (vS Ω (11, b0)) 10 (nI (m + 1))) 11 (nI 0)), (7, b0 + 87 + 17 * m, f', q')] Ω) H.2.1 → H1.2 = H.2 → f' 0 = some bk → ((f' 1 = none ∧ stR ((vS Ω (13, mo)).2.2.1 4) ((vS Ω (13, mo)).2.2.2 5) q' (vS Ω (0, bk)) none) ∨ ∃ lb fl lg, f' 1 = some lb ∧ Ω (3, lb) = some (fl, lg) ∧ stR ((vS Ω (13, mo)).2.2.1 4) ((vS Ω (13, mo)).2.2.2 5) q' (vS Ω (0, bk)) (some lg)) → two l b0 mo k yX11_mark yX12_mark cX11_mark cX12_mark 1 1 (some .int) [] H := by
      intro f' q' H1 c1 hO1 hz hf0 hst
      have A : ∀ K : Nat × Nat, K.1 ≠ 11 → K ≠ (7, b0 + 87 + 17 * m) → oU [(11, b0, vF Ω (11, b0), uI (uI (vS Ω (11, b0)) 10 (nI (m + 1))) 11 (nI 0)), (7, b0 + 87 + 17 * m, f', q')] Ω K = Ω K := fun K g1 g2 => oU_ag (fun K => K.1 ≠ 11 ∧ K ≠ (7, b0 + 87 + 17 * m)) (by simp) K ⟨g1, g2⟩
      have l11 : oU [(11, b0, vF Ω (11, b0), uI (uI (vS Ω (11, b0)) 10 (nI (m + 1))) 11 (nI 0)), (7, b0 + 87 + 17 * m, f', q')] Ω (11, b0) = some (vF Ω (11, b0), uI (uI (vS Ω (11, b0)) 10 (nI (m + 1))) 11 (nI 0)) := (oUc _ _ _ _).trans (if_pos rfl)
      have l7 : oU [(11, b0, vF Ω (11, b0), uI (uI (vS Ω (11, b0)) 10 (nI (m + 1))) 11 (nI 0)), (7, b0 + 87 + 17 * m, f', q')] Ω (7, b0 + 87 + 17 * m) = some (f', q') := by simp [oU]
      have hn13 : ∀ r ∈ [((11, b0, vF Ω (11, b0), uI (uI (vS Ω (11, b0)) 10 (nI (m + 1))) 11 (nI 0)) : XR), (7, b0 + 87 + 17 * m, f', q')], r.1 ≠ 13 := by simp
      generalize [((11, b0, vF Ω (11, b0), uI (uI (vS Ω (11, b0)) 10 (nI (m + 1))) 11 (nI 0)) : XR), (7, b0 + 87 + 17 * m, f', q')] = L at *
      have n7 : ∀ K : Nat × Nat, K.1 ≠ 7 → K ≠ (7, b0 + 87 + 17 * m) := fun K h e => h (by rw [e])
      refine twG (s' := s') (N1 := H.2.1) (S1 := H.2.2) hh hV.1.1 hn13 c1 hO1 hz (Nat.le_refl _) (fun h hh => pX12_mark_ok hh _ (nI (m + 1), s') e1) (iv_M hV (fun K g1 g2 => A K g1 (n7 K g2)) l11 es e0 ⟨fun i hi => oU_I (hm1 i hi), m + 1, by omega, e22, rfl, fun i hi => ?_⟩ ?_) (by omega) (by omega) (by decide) (by decide)
      · by_cases ei : i = m
        · rw [ei]
          have q1 : ∀ Lg, stR ((vS Ω (13, mo)).2.2.1 4) ((vS Ω (13, mo)).2.2.2 5) q' (vS Ω (0, bk)) Lg → stR (fun j => s'.2.2.1 4 (360 * (m + 1) + j)) (fun j => s'.2.2.2 5 (20 * (m + 1) + j)) q' (vS Ω (0, bk)) Lg := fun Lg h => stR_cg (fun j hj => by
            show s'.2.2.1 4 (360 * (m + 1) + j) = _
            rw [es.2.2.2.1, blC_in _ hj]
            exact congrArg _ (by omega)) (fun j hj => by
            show s'.2.2.2 5 (20 * (m + 1) + j) = _
            rw [es.2.2.2.2.2, blC_in _ hj]
            exact congrArg _ (by omega)) h
          refine mk_now l7 hf0 ((A (0, bk) (by show 0 ≠ 11; decide) (n7 _ (by show 0 ≠ 7; decide))).trans h0) ?_
          rcases hst with ⟨t1, t2⟩ | ⟨lb, fl, lg, t1, t2, t3⟩
          · exact Or.inl ⟨t1, q1 _ t2⟩
          · exact Or.inr ⟨lb, fl, lg, t1, (A (3, lb) (by show 3 ≠ 11; decide) (n7 _ (by show 3 ≠ 7; decide))).trans t2, q1 _ t3⟩
        · have him : i < m := by omega
          refine stO_cg (fun j hj => ?_) (fun j hj => ?_) (stO_1 (fun K hK => A K (by omega) (n7 K (by omega))) (A (7, b0 + 87 + 17 * i) (by show 7 ≠ 11; decide) (fun e => by have := congrArg Prod.snd e; dsimp only at this; omega)) (hmk i him))
          · show s'.2.2.1 4 (360 * (i + 1) + j) = _
            rw [es.2.2.2.1, blC_no _ (by omega)]
          · show s'.2.2.2 5 (20 * (i + 1) + j) = _
            rw [es.2.2.2.2.2, blC_no _ (by omega)]
      · refine stO_cg (fun j hj => ?_) (fun j hj => ?_) (stO_1 (fun K hK => A K (by omega) (n7 K (by omega))) (A (7, b0 + 8) (by show 7 ≠ 11; decide) (fun e => by have := congrArg Prod.snd e; dsimp only at this; omega)) hV.2.2.2.2)
        · rw [es.2.2.2.1, blC_no _ (by omega)]
        · rw [es.2.2.2.2.2, blC_no _ (by omega)]
    rcases g4 with ⟨g5, g6⟩ | ⟨lb, g5, g6, g7⟩
    · obtain ⟨q', d1, d2⟩ := (x_mark (s0 := vS Ω (11, b0)) (s1 := vS Ω (7, b0 + 8)) (s2 := vS Ω (0, bk)) (s3 := vS Ω (7, b0 + 87 + 17 * m)) (s4 := z0) hm h10).2.1
      obtain ⟨H1, c1, hO1, hz⟩ := pX11_markTN_ok (l := l) rfl hO h11 h7 h0 ha g0 g5 ne8 hK _ d1
      exact fin _ _ _ c1 hO1 hz rfl (Or.inl ⟨rfl, stR_7 d2 g6⟩)
    · obtain ⟨q', d1, d2⟩ := (x_mark (s0 := vS Ω (11, b0)) (s1 := vS Ω (7, b0 + 8)) (s2 := vS Ω (0, bk)) (s3 := vS Ω (3, lb)) (s4 := vS Ω (7, b0 + 87 + 17 * m)) hm h10).1
      obtain ⟨H1, c1, hO1, hz⟩ := pX11_markT_ok (l := l) rfl hO h11 h7 h0 (v_some g6) ha g0 g5 ne8 hK _ d1
      exact fin _ _ _ c1 hO1 hz rfl (Or.inr ⟨lb, _, _, rfl, v_some g6, stR_7 d2 g7⟩)
theorem m_back (hI : INV b0 mo k H) : two l b0 mo k yX11_back yX12_back cX11_back cX12_back 1 1 (some .int) [] H := by
  obtain ⟨Ω, c, hO, hh, hV, hr1, hr2⟩ := hI
  obtain ⟨hm1, m0, hm3, h22, h10, hmk⟩ := hV.2.2.2.1
  have h11 := v_some hV.1.2.1
  rcases Nat.eq_zero_or_pos m0 with e3 | hp
  · rw [e3] at h22 h10
    obtain ⟨a, s', e1, e2, e3⟩ := q_backE h22 h10
    have hm : oM Ω [(11, b0, vF Ω (11, b0), vS Ω (11, b0))] := ⟨h11, trivial⟩
    have c1 := pX11_backE_ok (l := l) (h := H) (b0 := b0) (f0 := vF Ω (11, b0)) (wO_ok hO hm (by simp)) (vS Ω (11, b0)) _ e3
    rw [wO_lay hO hm] at c1
    exact two_of (tw (L := [(11, b0, vF Ω (11, b0), uI (vS Ω (11, b0)) 11 (s'.1 0))]) (s' := s') hO hh (oS_of hm rfl) hV.1.1 (by simp) c1 (fun h hh => pX12_back_ok hh _ (a, s') e1) (iv_q hV (by simp) ((oUc _ _ _ _).trans (if_pos rfl)) e2) (by omega) (by omega)) (by decide) (by decide)
  · obtain ⟨m, rfl⟩ : ∃ m, m0 = m + 1 := ⟨m0 - 1, by omega⟩
    have hm : m < 3 := by omega
    have ne8 : b0 + 8 ≠ b0 + 87 + 17 * m := by omega
    have h7 := v_some hV.2.2.2.2.1
    obtain ⟨ia, bk, g0, i0, g4⟩ := hmk m (by omega)
    have ha := v_some ia
    have h0 := v_some i0
    obtain ⟨s', e1, es, e22, e0⟩ := r_bck (s := vS Ω (13, mo)) hm h22
    have hK : ∀ q, pX11_backh (vS Ω (11, b0)) (vS Ω (7, b0 + 8)) = some q → vp_in q.1 3 → b0 + 87 + 17 * q.1.toNatClampNeg = b0 + 87 + 17 * m := fun q hq _ => by
      rw [(x_bck (s1 := vS Ω (7, b0 + 8)) (s2 := z0) (s3 := z0) (s4 := z0) hm h10).2.2] at hq
      cases hq
      show b0 + 87 + 17 * (nI m).toNatClampNeg = _
      rw [nI_clamp (by omega)]
    have fin : ∀ (f' : Nat → Option Nat) (q' : RS) (H1 : aH), aMet l 4 yX11_back cX11_back 1 (some .int) [.ref b0] H (some (.int (nI m))) H1 → wO H1 (oU [(11, b0, vF Ω (11, b0), uI (uI (vS Ω (11, b0)) 10 (nI m)) 11 (nI 0)), (7, b0 + 8, f', q')] Ω) H.2.1 → H1.2 = H.2 → f' 0 = some bk → ((f' 1 = none ∧ stR (fun j => (vS Ω (13, mo)).2.2.1 4 (360 * (m + 1) + j)) (fun j => (vS Ω (13, mo)).2.2.2 5 (20 * (m + 1) + j)) q' (vS Ω (0, bk)) none) ∨ ∃ lb fl lg, f' 1 = some lb ∧ Ω (3, lb) = some (fl, lg) ∧ stR (fun j => (vS Ω (13, mo)).2.2.1 4 (360 * (m + 1) + j)) (fun j => (vS Ω (13, mo)).2.2.2 5 (20 * (m + 1) + j)) q' (vS Ω (0, bk)) (some lg)) → two l b0 mo k yX11_back yX12_back cX11_back cX12_back 1 1 (some .int) [] H := by
      intro f' q' H1 c1 hO1 hz hf0 hst
      have A : ∀ K : Nat × Nat, K.1 ≠ 11 → K ≠ (7, b0 + 8) → oU [(11, b0, vF Ω (11, b0), uI (uI (vS Ω (11, b0)) 10 (nI m)) 11 (nI 0)), (7, b0 + 8, f', q')] Ω K = Ω K := fun K g1 g2 => oU_ag (fun K => K.1 ≠ 11 ∧ K ≠ (7, b0 + 8)) (by simp) K ⟨g1, g2⟩
      have l11 : oU [(11, b0, vF Ω (11, b0), uI (uI (vS Ω (11, b0)) 10 (nI m)) 11 (nI 0)), (7, b0 + 8, f', q')] Ω (11, b0) = some (vF Ω (11, b0), uI (uI (vS Ω (11, b0)) 10 (nI m)) 11 (nI 0)) := (oUc _ _ _ _).trans (if_pos rfl)
      have l7 : oU [(11, b0, vF Ω (11, b0), uI (uI (vS Ω (11, b0)) 10 (nI m)) 11 (nI 0)), (7, b0 + 8, f', q')] Ω (7, b0 + 8) = some (f', q') := by simp [oU]
      have hn13 : ∀ r ∈ [((11, b0, vF Ω (11, b0), uI (uI (vS Ω (11, b0)) 10 (nI m)) 11 (nI 0)) : XR), (7, b0 + 8, f', q')], r.1 ≠ 13 := by simp
      generalize [((11, b0, vF Ω (11, b0), uI (uI (vS Ω (11, b0)) 10 (nI m)) 11 (nI 0)) : XR), (7, b0 + 8, f', q')] = L at *
      have n7 : ∀ K : Nat × Nat, K.1 ≠ 7 → K ≠ (7, b0 + 8) := fun K h e => h (by rw [e])
      refine twG (s' := s') (N1 := H.2.1) (S1 := H.2.2) hh hV.1.1 hn13 c1 hO1 hz (Nat.le_refl _) (fun h hh => pX12_back_ok hh _ (nI m, s') e1) (iv_M hV (fun K g1 g2 => A K g1 (n7 K g2)) l11 es e0 ⟨fun i hi => oU_I (hm1 i hi), m, by omega, e22, rfl, fun i hi => ?_⟩ ?_) (by omega) (by omega) (by decide) (by decide)
      · refine stO_cg (fun j hj => ?_) (fun j hj => ?_) (stO_1 (fun K hK => A K (by omega) (n7 K (by omega))) (A (7, b0 + 87 + 17 * i) (by show 7 ≠ 11; decide) (fun e => by have := congrArg Prod.snd e; dsimp only at this; omega)) (hmk i (by omega)))
        · show s'.2.2.1 4 (360 * (i + 1) + j) = _
          rw [es.2.2.2.1, blC_no _ (by omega)]
        · show s'.2.2.2 5 (20 * (i + 1) + j) = _
          rw [es.2.2.2.2.2, blC_no _ (by omega)]
      · have q1 : ∀ Lg, stR (fun j => (vS Ω (13, mo)).2.2.1 4 (360 * (m + 1) + j)) (fun j => (vS Ω (13, mo)).2.2.2 5 (20 * (m + 1) + j)) q' (vS Ω (0, bk)) Lg → stR (s'.2.2.1 4) (s'.2.2.2 5) q' (vS Ω (0, bk)) Lg := fun Lg h => stR_cg (fun j hj => by
          have := blC_in (w := 360) (i := m + 1) (j := 0) ((vS Ω (13, mo)).2.2.1 4) hj
          rw [show 360 * 0 + j = j by omega] at this
          rw [es.2.2.2.1, this]) (fun j hj => by
          have := blC_in (w := 20) (i := m + 1) (j := 0) ((vS Ω (13, mo)).2.2.2 5) hj
          rw [show 20 * 0 + j = j by omega] at this
          rw [es.2.2.2.2.2, this]) h
        refine mk_now l7 hf0 ((A (0, bk) (by show 0 ≠ 11; decide) (n7 _ (by show 0 ≠ 7; decide))).trans h0) ?_
        rcases hst with ⟨t1, t2⟩ | ⟨lb, fl, lg, t1, t2, t3⟩
        · exact Or.inl ⟨t1, q1 _ t2⟩
        · exact Or.inr ⟨lb, fl, lg, t1, (A (3, lb) (by show 3 ≠ 11; decide) (n7 _ (by show 3 ≠ 7; decide))).trans t2, q1 _ t3⟩
    rcases g4 with ⟨g5, g6⟩ | ⟨lb, g5, g6, g7⟩
    · obtain ⟨q', d1, d2⟩ := (x_bck (s0 := vS Ω (11, b0)) (s1 := vS Ω (7, b0 + 8)) (s2 := vS Ω (7, b0 + 87 + 17 * m)) (s3 := vS Ω (0, bk)) (s4 := z0) hm h10).2.1
      obtain ⟨H1, c1, hO1, hz⟩ := pX11_backTN_ok (l := l) rfl hO h11 h7 ha h0 g0 g5 ne8 hK _ d1
      exact fin _ _ _ c1 hO1 hz rfl (Or.inl ⟨rfl, stR_7 d2 g6⟩)
    · obtain ⟨q', d1, d2⟩ := (x_bck (s0 := vS Ω (11, b0)) (s1 := vS Ω (7, b0 + 8)) (s2 := vS Ω (7, b0 + 87 + 17 * m)) (s3 := vS Ω (0, bk)) (s4 := vS Ω (3, lb)) hm h10).1
      obtain ⟨H1, c1, hO1, hz⟩ := pX11_backT_ok (l := l) rfl hO h11 h7 ha h0 (v_some g6) g0 g5 ne8 hK _ d1
      exact fin _ _ _ c1 hO1 hz rfl (Or.inr ⟨lb, _, _, rfl, v_some g6, stR_7 d2 g7⟩)
end P
