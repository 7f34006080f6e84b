/-! THE LAW: pour, order, swap, forward, give, sail, agreed -/
section P
variable {l : Launch} {b0 mo k : Nat} {H : aH}
theorem m_pour (hI : INV b0 mo k H) (a0 a1 a2 a3 a4 : Int32) : ∃ r H1 H2, aMet l 1 yX11_pour cX11_pour 8 (some .boolean) (.ref b0 :: [.int a0, .int a1, .int a2, .int a3, .int a4]) H r H1 ∧ aMet l 1 yX12_pour cX12_pour 9 (some .boolean) (.ref mo :: [.int a0, .int a1, .int a2, .int a3, .int a4]) H1 r H2 ∧ INV b0 mo (k + 1) H2 ∧ rcv mo H1 ∧ okR (some .boolean) r := by
  obtain ⟨Ω, c, hO, hh, hV, hr1, hr2⟩ := hI
  obtain ⟨B, nm, nmI, O, Hh, nO, bk, h13, h11, h8, h7, h0, hq, h26, h30, hB, hw, hR, hnm, hnmI, hH, hHc, hHw, hOw, hOr, hOc, hlog⟩ := iv_now hV
  obtain ⟨i, hi, ix1, ix2⟩ := tr_ix (b0 := b0) a0
  obtain ⟨j, hj, jx1, jx2⟩ := tr_ix (b0 := b0) a2
  have h9 := v_some (hV.1.2.2.2.2.2.2 i hi)
  have h9b := v_some (hV.1.2.2.2.2.2.2 j hj)
  have ht : ∀ x, x < 4 → a0 = nI x → trR (vS Ω (13, mo)) x (vS Ω (9, b0 + 79 + 2 * i)) := fun x hx e => by
    rw [ix2 x hx e]; exact hV.2.1.2.2.2 i hi
  have ht2 : ∀ x, x < 4 → a2 = nI x → trR (vS Ω (13, mo)) x (vS Ω (9, b0 + 79 + 2 * j)) := fun x hx e => by
    rw [jx2 x hx e]; exact hV.2.1.2.2.2 j hj
  by_cases ij : i = j
  · subst ij
    have hm : oM Ω [(11, b0, vF Ω (11, b0), vS Ω (11, b0)), (9, b0 + 79 + 2 * i, vF Ω (9, b0 + 79 + 2 * i), vS Ω (9, b0 + 79 + 2 * i))] := ⟨h11, h9, trivial⟩
    rcases q_pourE (s0 := vS Ω (11, b0)) a0 a1 a2 a3 a4 ht ht2 with ⟨s', e1, e2, e3⟩ | ⟨i', s', T', hi', ei, e1, e2, e4, e5, e3⟩
    · have c1 := pX11_pourE_ok (l := l) (h := H) (b0 := b0) (f0 := vF Ω (11, b0)) (f1 := vF Ω (9, b0 + 79 + 2 * i)) (wO_ok hO hm (by simp)) ix1 jx1 (vS Ω (11, b0)) (vS Ω (9, b0 + 79 + 2 * i)) a1 a3 a4 _ e3
      rw [wO_lay hO hm] at c1
      exact tw (L := [(11, b0, vF Ω (11, b0), uI (vS Ω (11, b0)) 11 (s'.1 0)), (9, b0 + 79 + 2 * i, vF Ω (9, b0 + 79 + 2 * i), vS Ω (9, b0 + 79 + 2 * i))]) (s' := s') hO hh (oS_of hm rfl) hV.1.1 (by simp) c1 (fun h hh => pX12_pour_ok hh _ a0 a1 a2 a3 a4 (false, s') e1) (iv_q hV (by simp [h9]) ((oUc _ _ _ _).trans (if_pos rfl)) e2) (by omega) (by omega)
    · have ee := jx2 i' hi' ei
      subst ee
      have c1 := pX11_pourE_ok (l := l) (h := H) (b0 := b0) (f0 := vF Ω (11, b0)) (f1 := vF Ω (9, b0 + 79 + 2 * i')) (wO_ok hO hm (by simp)) ix1 jx1 (vS Ω (11, b0)) (vS Ω (9, b0 + 79 + 2 * i')) a1 a3 a4 _ e3
      rw [wO_lay hO hm] at c1
      have l9 : oU [(11, b0, vF Ω (11, b0), uI (vS Ω (11, b0)) 11 0), (9, b0 + 79 + 2 * i', vF Ω (9, b0 + 79 + 2 * i'), T')] Ω (9, b0 + 79 + 2 * i') = some (vF Ω (9, b0 + 79 + 2 * i'), T') := by simp [oU]
      exact tw (L := [(11, b0, vF Ω (11, b0), uI (vS Ω (11, b0)) 11 0), (9, b0 + 79 + 2 * i', vF Ω (9, b0 + 79 + 2 * i'), T')]) (s' := s') hO hh (oS_of hm rfl) hV.1.1 (by simp) c1 (fun h hh => pX12_pour_ok hh _ a0 a1 a2 a3 a4 (true, s') e1) (iv_t hi' hV (by simp) (by simp) ((oUc _ _ _ _).trans (if_pos rfl)) l9 e2 e4 e5) (by omega) (by omega)
  · have nij : b0 + 79 + 2 * i ≠ b0 + 79 + 2 * j := by omega
    have hm : oM Ω [(11, b0, vF Ω (11, b0), vS Ω (11, b0)), (9, b0 + 79 + 2 * i, vF Ω (9, b0 + 79 + 2 * i), vS Ω (9, b0 + 79 + 2 * i)), (9, b0 + 79 + 2 * j, vF Ω (9, b0 + 79 + 2 * j), vS Ω (9, b0 + 79 + 2 * j))] := ⟨h11, h9, h9b, trivial⟩
    have nd : ([(11, b0, vF Ω (11, b0), vS Ω (11, b0)), (9, b0 + 79 + 2 * i, vF Ω (9, b0 + 79 + 2 * i), vS Ω (9, b0 + 79 + 2 * i)), (9, b0 + 79 + 2 * j, vF Ω (9, b0 + 79 + 2 * j), vS Ω (9, b0 + 79 + 2 * j))].map xk).Nodup := by
      simp
      omega
    rcases q_pour (s0 := vS Ω (11, b0)) a0 a1 a2 a3 a4 ht ht2 with ⟨s', e1, e2, e3⟩ | ⟨i', s', T', hi', ei, e1, e2, e4, e5, e3⟩
    · have c1 := pX11_pour_ok (l := l) (h := H) (b0 := b0) (f0 := vF Ω (11, b0)) (f1 := vF Ω (9, b0 + 79 + 2 * i)) (f2 := vF Ω (9, b0 + 79 + 2 * j)) (wO_ok hO hm nd) ix1 jx1 (vS Ω (11, b0)) (vS Ω (9, b0 + 79 + 2 * i)) (vS Ω (9, b0 + 79 + 2 * j)) a1 a3 a4 _ e3
      rw [wO_lay hO hm] at c1
      exact tw (L := [(11, b0, vF Ω (11, b0), uI (vS Ω (11, b0)) 11 (s'.1 0)), (9, b0 + 79 + 2 * i, vF Ω (9, b0 + 79 + 2 * i), vS Ω (9, b0 + 79 + 2 * i)), (9, b0 + 79 + 2 * j, vF Ω (9, b0 + 79 + 2 * j), vS Ω (9, b0 + 79 + 2 * j))]) (s' := s') hO hh (oS_of hm rfl) hV.1.1 (by simp) c1 (fun h hh => pX12_pour_ok hh _ a0 a1 a2 a3 a4 (false, s') e1) (iv_q hV (by simp [h9, h9b]) ((oUc _ _ _ _).trans (if_pos rfl)) e2) (by omega) (by omega)
    · have ee := jx2 i' hi' ei
      subst ee
      have c1 := pX11_pour_ok (l := l) (h := H) (b0 := b0) (f0 := vF Ω (11, b0)) (f1 := vF Ω (9, b0 + 79 + 2 * i)) (f2 := vF Ω (9, b0 + 79 + 2 * i')) (wO_ok hO hm nd) ix1 jx1 (vS Ω (11, b0)) (vS Ω (9, b0 + 79 + 2 * i)) (vS Ω (9, b0 + 79 + 2 * i')) a1 a3 a4 _ e3
      rw [wO_lay hO hm] at c1
      have l9 : oU [(11, b0, vF Ω (11, b0), uI (vS Ω (11, b0)) 11 0), (9, b0 + 79 + 2 * i, vF Ω (9, b0 + 79 + 2 * i), vS Ω (9, b0 + 79 + 2 * i)), (9, b0 + 79 + 2 * i', vF Ω (9, b0 + 79 + 2 * i'), T')] Ω (9, b0 + 79 + 2 * i') = some (vF Ω (9, b0 + 79 + 2 * i'), T') := by
        rw [oUc, if_neg (by intro e; cases e), oUc, if_neg (fun e => nij (congrArg Prod.snd e).symm), oUc, if_pos rfl]
      exact tw (L := [(11, b0, vF Ω (11, b0), uI (vS Ω (11, b0)) 11 0), (9, b0 + 79 + 2 * i, vF Ω (9, b0 + 79 + 2 * i), vS Ω (9, b0 + 79 + 2 * i)), (9, b0 + 79 + 2 * i', vF Ω (9, b0 + 79 + 2 * i'), T')]) (s' := s') hO hh (oS_of hm rfl) hV.1.1 (by simp) c1 (fun h hh => pX12_pour_ok hh _ a0 a1 a2 a3 a4 (true, s') e1) (iv_t hi' hV (by simp) (by simp [h9]) ((oUc _ _ _ _).trans (if_pos rfl)) l9 e2 e4 e5) (by omega) (by omega)
/-- the ORDER stays, or is another -/
theorem iv_oc {c : Nat} {Ω : oT} {s' s7' : RS} {L : List XR} {B nm nmI O Hh : Nat → Nat} {nO bk : Nat} (hI : IV b0 mo k c Ω) (hn13 : ∀ r ∈ L, r.1 ≠ 13) (hL : ∀ r ∈ L, r.1 ≠ 11 → r.1 ≠ 10 → xk r ≠ (7, b0 + 8) → Ω (xk r) = some r.2.2) (h11 : oU L Ω (11, b0) = some (vF Ω (11, b0), uI (vS Ω (11, b0)) 11 (s'.1 0))) (h7' : oU L Ω (7, b0 + 8) = some (vF Ω (7, b0 + 8), s7')) (h0 : Ω (0, bk) = some (vF Ω (0, bk), vS Ω (0, bk))) (hq : vF Ω (7, b0 + 8) 0 = some bk) (hB : blk ((vS Ω (13, mo)).2.2.1 4) 0 B) (hw : wfB B) (hR : bkR B (vS Ω (0, bk))) (hnm : nmR 0 (B 0) nm ((vS Ω (13, mo)).2.2.2 5) ((vS Ω (0, bk)).2.2.2 3)) (hnmI : nmR 16 (B 1) nmI ((vS Ω (13, mo)).2.2.2 5) ((vS Ω (0, bk)).2.2.2 2)) (hH : hsR ((vS Ω (13, mo)).2.2.1 4) Hh) (hHc : hsC (vS Ω (7, b0 + 8)) Hh) (hHw : hsW B Hh) (hOw : orW B nO O) (hOr : orR ((vS Ω (13, mo)).2.2.1 4) nO O) (hOc : orC (vS Ω (7, b0 + 8)) nO O) (hlog : (vF Ω (7, b0 + 8) 1 = none ∧ (vS Ω (13, mo)).2.2.1 4 135 = nI 0) ∨ ∃ lb, vF Ω (7, b0 + 8) 1 = some lb ∧ Ω (3, lb) = some (vF Ω (3, lb), vS Ω (3, lb)) ∧ (vS Ω (13, mo)).2.2.1 4 135 = nI 1 ∧ ∃ R T, lgR B (vS Ω (3, lb)) ((vS Ω (13, mo)).2.2.1 4) R T) (hoc : oCh B (vS Ω (13, mo)) s' (vS Ω (7, b0 + 8)) s7') : IV b0 mo (k + 1) c (oU [(13, mo, fZ, s')] (oU L Ω)) := by
  rcases hoc with ⟨hs, rfl⟩ | ⟨hs, hc, h2, n', O', o1, o2, o3⟩
  · have e4 := hs.2.2.1.2.2.2.1
    have e5 := hs.2.2.2.2
    exact iv_s7 hI hn13 hL h11 h7' h0 hq (by rw [e4]; exact hB) hw hR (by rw [e5]; exact hnm) (by rw [e5]; exact hnmI) (by rw [e4]; exact hH) hHc hHw hOw (by rw [e4]; exact hOr) hOc (by rw [e4]; exact hlog) (rel_q hI.2.1 hs) hs.1.2.2.2.1 rfl (fun x _ _ => by rw [e4]) (fun x _ _ => by rw [e5])
  · have e5 := hs.2.2.2.2
    obtain ⟨⟨b1, b2, b3, b4, b5⟩, ⟨b6, b7⟩, ⟨b8, b9, b10, b12⟩, b13, b14⟩ := hs
    obtain ⟨⟨a1, a2, a3⟩, ⟨a4, a5⟩, ⟨⟨n, a6⟩, a7, a8, a9⟩, a10⟩ := hI.2.1
    refine iv_s7 hI hn13 hL h11 h7' h0 hq ⟨fun j hj => by rw [hc _ (by omega)]; exact hB.1 j hj, hB.2⟩ hw hR (by rw [e5]; exact hnm) (by rw [e5]; exact hnmI) (fun i hi => by rw [hc _ (by omega)]; exact hH i hi) (fun i hi => by rw [h2]; exact hHc i hi) hHw o3 o1 o2 ?_ ⟨⟨rfl, b6.trans a2, b7.trans a3⟩, ⟨b5.trans a4, fun q i hi => by rw [b12]; exact a5 (by rw [← b5]; exact q) i hi⟩, ⟨⟨n, tpR_cg b1 b10 a6⟩, b2.trans a7, b3.trans a8, a9⟩, fun i hi => trR_cg b8 b9 b13 (a10 i hi)⟩ b4 rfl (fun x x1 _ => hc x (by omega)) (fun x _ _ => by rw [e5])
    rcases hlog with ⟨l1, l2⟩ | ⟨lb, l1, l2, l3, R, T, l4⟩
    · exact Or.inl ⟨l1, by rw [hc _ (by omega)]; exact l2⟩
    · obtain ⟨m1, m2, m3, m4, m5, m6, m7, m8⟩ := l4
      exact Or.inr ⟨lb, l1, l2, by rw [hc _ (by omega)]; exact l3, R, T, m1, m2, m3, by rw [hc _ (by omega)]; exact m4, m5, m6, m7, sg_cg m5 m6 0 R 0 T (fun _ _ _ _ => rfl) (fun x x1 x2 => hc x (by omega)) m8⟩
theorem m_order (hI : INV b0 mo k H) (a0 : Int32) (a1 : Int32) : ∃ r H1 H2, aMet l 2 yX11_order cX11_order 4 (some .boolean) (.ref b0 :: [.int a0, .int a1]) H r H1 ∧ aMet l 2 yX12_order cX12_order 7 (some .boolean) (.ref mo :: [.int a0, .int a1]) H1 r H2 ∧ INV b0 mo (k + 1) H2 ∧ rcv mo H1 ∧ okR (some .boolean) r := by
  obtain ⟨Ω, c, hO, hh, hV, hr1, hr2⟩ := hI
  obtain ⟨B, nm, nmI, O, Hh, nO, bk, h13, h11, h8, h7, h0, hq, h26, h30, hB, hw, hR, hnm, hnmI, hH, hHc, hHw, hOw, hOr, hOc, hlog⟩ := iv_now hV
  obtain ⟨i, hi, ix1, ix2⟩ := tr_ix (b0 := b0) a0
  have h9 := v_some (hV.1.2.2.2.2.2.2 i hi)
  have ht : ∀ x, x < 4 → a0 = nI x → trR (vS Ω (13, mo)) x (vS Ω (9, b0 + 79 + 2 * i)) := fun x hx e => by
    rw [ix2 x hx e]; exact hV.2.1.2.2.2 i hi
  obtain ⟨a, s', s1', e1, e2, e3⟩ := q_order (s0 := vS Ω (11, b0)) (s1 := vS Ω (7, b0 + 8)) hB hw hR a0 a1 ht
  have hm : oM Ω [(11, b0, vF Ω (11, b0), vS Ω (11, b0)), (7, b0 + 8, vF Ω (7, b0 + 8), vS Ω (7, b0 + 8)), (0, bk, vF Ω (0, bk), vS Ω (0, bk)), (9, b0 + 79 + 2 * i, vF Ω (9, b0 + 79 + 2 * i), vS Ω (9, b0 + 79 + 2 * i))] := ⟨h11, h7, h0, h9, trivial⟩
  have c1 := pX11_order_ok (l := l) (h := H) (b0 := b0) (f0 := vF Ω (11, b0)) (f1 := vF Ω (7, b0 + 8)) (f2 := vF Ω (0, bk)) (f3 := vF Ω (9, b0 + 79 + 2 * i)) (b2 := bk)  (wO_ok hO hm (by simp)) hq ix1 (vS Ω (11, b0)) (vS Ω (7, b0 + 8)) (vS Ω (0, bk)) (vS Ω (9, b0 + 79 + 2 * i)) a1 _ e3
  rw [wO_lay hO hm] at c1
  exact tw (L := [(11, b0, vF Ω (11, b0), uI (vS Ω (11, b0)) 11 (s'.1 0)), (7, b0 + 8, vF Ω (7, b0 + 8), s1'), (0, bk, vF Ω (0, bk), vS Ω (0, bk)), (9, b0 + 79 + 2 * i, vF Ω (9, b0 + 79 + 2 * i), vS Ω (9, b0 + 79 + 2 * i))]) (s' := s') hO hh (oS_of hm rfl) hV.1.1 (by simp) c1 (fun h hh => pX12_order_ok hh _ a0 a1 (a, s') e1) (iv_oc hV (by simp) (by simp [h0, h9]) ((oUc _ _ _ _).trans (if_pos rfl)) (by simp [oU]) h0 hq hB hw hR hnm hnmI hH hHc hHw hOw hOr hOc hlog e2) (by omega) (by omega)
theorem m_swap (hI : INV b0 mo k H) (a0 : Int32) : ∃ r H1 H2, aMet l 2 yX11_swap cX11_swap 2 (some .boolean) (.ref b0 :: [.int a0]) H r H1 ∧ aMet l 2 yX12_swap cX12_swap 2 (some .boolean) (.ref mo :: [.int a0]) H1 r H2 ∧ INV b0 mo (k + 1) H2 ∧ rcv mo H1 ∧ okR (some .boolean) r := by
  obtain ⟨Ω, c, hO, hh, hV, hr1, hr2⟩ := hI
  obtain ⟨B, nm, nmI, O, Hh, nO, bk, h13, h11, h8, h7, h0, hq, h26, h30, hB, hw, hR, hnm, hnmI, hH, hHc, hHw, hOw, hOr, hOc, hlog⟩ := iv_now hV
  obtain ⟨a, s', s1', e1, e2, e3⟩ := q_swap (s0 := vS Ω (11, b0)) (s1 := vS Ω (7, b0 + 8)) hB hw hR hOw hOr hOc a0
  have hm : oM Ω [(11, b0, vF Ω (11, b0), vS Ω (11, b0)), (7, b0 + 8, vF Ω (7, b0 + 8), vS Ω (7, b0 + 8)), (0, bk, vF Ω (0, bk), vS Ω (0, bk))] := ⟨h11, h7, h0, trivial⟩
  have c1 := pX11_swap_ok (l := l) (h := H) (b0 := b0) (f0 := vF Ω (11, b0)) (f1 := vF Ω (7, b0 + 8)) (f2 := vF Ω (0, bk)) (b2 := bk)  (wO_ok hO hm (by simp)) hq (vS Ω (11, b0)) (vS Ω (7, b0 + 8)) (vS Ω (0, bk)) a0 _ e3
  rw [wO_lay hO hm] at c1
  exact tw (L := [(11, b0, vF Ω (11, b0), uI (vS Ω (11, b0)) 11 (s'.1 0)), (7, b0 + 8, vF Ω (7, b0 + 8), s1'), (0, bk, vF Ω (0, bk), vS Ω (0, bk))]) (s' := s') hO hh (oS_of hm rfl) hV.1.1 (by simp) c1 (fun h hh => pX12_swap_ok hh _ a0 (a, s') e1) (iv_oc hV (by simp) (by simp [h0]) ((oUc _ _ _ _).trans (if_pos rfl)) (by simp [oU]) h0 hq hB hw hR hnm hnmI hH hHc hHw hOw hOr hOc hlog e2) (by omega) (by omega)
theorem m_forward (hI : INV b0 mo k H) (a0 : Int32) : ∃ r H1 H2, aMet l 2 yX11_forward cX11_forward 3 (some .int) (.ref b0 :: [.int a0]) H r H1 ∧ aMet l 2 yX12_forward cX12_forward 4 (some .int) (.ref mo :: [.int a0]) H1 r H2 ∧ INV b0 mo (k + 1) H2 ∧ rcv mo H1 ∧ okR (some .int) r := by
  obtain ⟨Ω, c, hO, hh, hV, hr1, hr2⟩ := hI
  obtain ⟨B, nm, nmI, O, Hh, nO, bk, h13, h11, h8, h7, h0, hq, h26, h30, hB, hw, hR, hnm, hnmI, hH, hHc, hHw, hOw, hOr, hOc, hlog⟩ := iv_now hV
  obtain ⟨a, s', s1', e1, e2, e3⟩ := q_forward (s0 := vS Ω (11, b0)) (s1 := vS Ω (7, b0 + 8)) hB hw hR hOw hOr hOc a0
  have hm : oM Ω [(11, b0, vF Ω (11, b0), vS Ω (11, b0)), (7, b0 + 8, vF Ω (7, b0 + 8), vS Ω (7, b0 + 8)), (0, bk, vF Ω (0, bk), vS Ω (0, bk))] := ⟨h11, h7, h0, trivial⟩
  have c1 := pX11_forward_ok (l := l) (h := H) (b0 := b0) (f0 := vF Ω (11, b0)) (f1 := vF Ω (7, b0 + 8)) (f2 := vF Ω (0, bk)) (b2 := bk)  (wO_ok hO hm (by simp)) hq (vS Ω (11, b0)) (vS Ω (7, b0 + 8)) (vS Ω (0, bk)) a0 _ e3
  rw [wO_lay hO hm] at c1
  exact tw (L := [(11, b0, vF Ω (11, b0), uI (vS Ω (11, b0)) 11 (s'.1 0)), (7, b0 + 8, vF Ω (7, b0 + 8), s1'), (0, bk, vF Ω (0, bk), vS Ω (0, bk))]) (s' := s') hO hh (oS_of hm rfl) hV.1.1 (by simp) c1 (fun h hh => pX12_forward_ok hh _ a0 (a, s') e1) (iv_oc hV (by simp) (by simp [h0]) ((oUc _ _ _ _).trans (if_pos rfl)) (by simp [oU]) h0 hq hB hw hR hnm hnmI hH hHc hHw hOw hOr hOc hlog e2) (by omega) (by omega)
theorem m_give (hI : INV b0 mo k H) (a0 a1 : Int32) : ∃ r H1 H2, aMet l 3 yX11_give cX11_give 3 (some .boolean) (.ref b0 :: [.int a0, .int a1]) H r H1 ∧ aMet l 2 yX12_give cX12_give 3 (some .boolean) (.ref mo :: [.int a0, .int a1]) H1 r H2 ∧ INV b0 mo (k + 1) H2 ∧ rcv mo H1 ∧ okR (some .boolean) r := by
  obtain ⟨Ω, c, hO, hh, hV, hr1, hr2⟩ := hI
  obtain ⟨B, nm, nmI, O, Hh, nO, bk, h13, h11, h8, h7, h0, hq, h26, h30, hB, hw, hR, hnm, hnmI, hH, hHc, hHw, hOw, hOr, hOc, hlog⟩ := iv_now hV
  have hm : oM Ω [(11, b0, vF Ω (11, b0), vS Ω (11, b0)), (7, b0 + 8, vF Ω (7, b0 + 8), vS Ω (7, b0 + 8)), (0, bk, vF Ω (0, bk), vS Ω (0, bk))] := ⟨h11, h7, h0, trivial⟩
  rcases q_give (s0 := vS Ω (11, b0)) (s1 := vS Ω (7, b0 + 8)) hB hw hR a0 a1 with ⟨s', e1, e2, e3⟩ | ⟨i, t, hi, ht, hlt, e1, e3⟩
  · have c1 := pX11_give_ok (l := l) (h := H) (b0 := b0) (f0 := vF Ω (11, b0)) (f1 := vF Ω (7, b0 + 8)) (f2 := vF Ω (0, bk)) (b2 := bk) (wO_ok hO hm (by simp)) hq (vS Ω (11, b0)) (vS Ω (7, b0 + 8)) (vS Ω (0, bk)) a0 a1 _ e3
    rw [wO_lay hO hm] at c1
    exact tw (L := [(11, b0, vF Ω (11, b0), uI (vS Ω (11, b0)) 11 (s'.1 0)), (7, b0 + 8, vF Ω (7, b0 + 8), vS Ω (7, b0 + 8)), (0, bk, vF Ω (0, bk), vS Ω (0, bk))]) (s' := s') hO hh (oS_of hm rfl) hV.1.1 (by simp) c1 (fun h hh => pX12_give_ok hh _ a0 a1 (false, s') e1) (iv_q hV (by simp [h7, h0]) ((oUc _ _ _ _).trans (if_pos rfl)) e2) (by omega) (by omega)
  · have c1 := pX11_give_ok (l := l) (h := H) (b0 := b0) (f0 := vF Ω (11, b0)) (f1 := vF Ω (7, b0 + 8)) (f2 := vF Ω (0, bk)) (b2 := bk) (wO_ok hO hm (by simp)) hq (vS Ω (11, b0)) (vS Ω (7, b0 + 8)) (vS Ω (0, bk)) a0 a1 _ e3
    rw [wO_lay hO hm] at c1
    have i4 := hw.2.1
    obtain ⟨⟨a1', a2', a3'⟩, ⟨a4', a5'⟩, ⟨⟨n, a6'⟩, a7', a8', a9'⟩, a10'⟩ := hV.2.1
    have hc4 : ∀ x, x ≠ 114 + i → (uA (uI (uI (vS Ω (13, mo)) 1 0) 0 0) 4 (upd ((vS Ω (13, mo)).2.2.1 4) (114 + i) (nI t))).2.2.1 4 x = (vS Ω (13, mo)).2.2.1 4 x := fun x hx => by rw [uA_at, upd_ne _ _ hx]
    have hci : (uA (uI (uI (vS Ω (13, mo)) 1 0) 0 0) 4 (upd ((vS Ω (13, mo)).2.2.1 4) (114 + i) (nI t))).2.2.1 4 (114 + i) = nI t := by rw [uA_at, upd_at]
    refine tw (L := [(11, b0, vF Ω (11, b0), uI (vS Ω (11, b0)) 11 0), (7, b0 + 8, vF Ω (7, b0 + 8), uA (vS Ω (7, b0 + 8)) 2 (upd ((vS Ω (7, b0 + 8)).2.2.1 2) i (nI t))), (0, bk, vF Ω (0, bk), vS Ω (0, bk))]) (s' := uA (uI (uI (vS Ω (13, mo)) 1 0) 0 0) 4 (upd ((vS Ω (13, mo)).2.2.1 4) (114 + i) (nI t))) hO hh (oS_of hm rfl) hV.1.1 (by simp) c1 (fun h hh => pX12_give_ok hh _ a0 a1 (true, _) e1) (iv_s7 (s0' := uI (vS Ω (11, b0)) 11 0) (s7' := uA (vS Ω (7, b0 + 8)) 2 (upd ((vS Ω (7, b0 + 8)).2.2.1 2) i (nI t))) (Hh := upN Hh i t) hV (by simp) (by simp [h0]) ((oUc _ _ _ _).trans (if_pos rfl)) (by simp [oU]) h0 hq ⟨fun j hj => by rw [hc4 _ (by omega)]; exact hB.1 j hj, hB.2⟩ hw hR hnm hnmI ?_ ?_ ?_ hOw ⟨by rw [hc4 _ (by omega)]; exact hOr.1, fun x hx => by rw [hc4 _ (by omega)]; exact hOr.2 x hx⟩ ?_ ?_ ⟨⟨rfl, a2', a3'⟩, ⟨a4', a5'⟩, ⟨⟨n, a6'⟩, a7', a8', a9'⟩, fun x hx => a10' x hx⟩ rfl rfl (fun x _ _ => hc4 x (by omega)) (fun _ _ _ => rfl)) (by omega) (by omega)
    · intro x hx
      by_cases e : x = i
      · rw [e, upN_at]; exact hci
      · rw [hc4 _ (by omega), upN_ne _ _ e]; exact hH x hx
    · intro x hx
      by_cases e : x = i
      · rw [e, uA_at, upd_at, upN_at]
      · rw [uA_at, upd_ne _ _ e, upN_ne _ _ e]; exact hHc x hx
    · intro x hx
      by_cases e : x = i
      · rw [e, upN_at]; exact ⟨ht, hlt⟩
      · rw [upN_ne _ _ e]; exact hHw x hx
    · exact ⟨hOc.1, fun x hx => by rw [uA_ne _ _ (by decide)]; exact hOc.2 x hx⟩
    · rcases hlog with ⟨l1, l2⟩ | ⟨lb, l1, l2, l3, R, T, l4⟩
      · exact Or.inl ⟨l1, by rw [hc4 _ (by omega)]; exact l2⟩
      · obtain ⟨m1, m2, m3, m4, m5, m6, m7, m8⟩ := l4
        exact Or.inr ⟨lb, l1, l2, by rw [hc4 _ (by omega)]; exact l3, R, T, m1, m2, m3, by rw [hc4 _ (by omega)]; exact m4, m5, m6, m7, sg_cg m5 m6 0 R 0 T (fun _ _ _ _ => rfl) (fun x x1 x2 => hc4 x (by omega)) m8⟩
end P
