/-! THE LAW: the calls that only tell (by wip/gen/law.py) -/
section P
variable {l : Launch} {b0 mo k : Nat} {H : aH}
theorem m_many (hI : INV b0 mo k H) (a0 : Int32) : ∃ r H1 H2, aMet l 2 yX11_many cX11_many 3 (some .int) (.ref b0 :: [.int a0]) H r H1 ∧ aMet l 3 yX12_many cX12_many 5 (some .int) (.ref mo :: [.int a0]) H1 r H2 ∧ INV b0 mo (k + 1) H2 ∧ rcv mo H1 ∧ okR (some .int) r := by
  obtain ⟨Ω, c, hO, hh, hV, hr1, hr2⟩ := hI
  obtain ⟨B, nm, nmI, O, Hh, nO, bk, h13, h11, h8, h7, h0, hq, h26, h30, hB, hw, hR, hnm, hnmI, hH, hHc, hHw, hOw, hOr, hOc, hlog⟩ := iv_now hV
  obtain ⟨a, s', e1, e2, e3⟩ := q_many (s0 := vS Ω (11, b0)) (s1 := vS Ω (7, b0 + 8)) hB hw hR a0
  have hm : oM Ω [(11, b0, vF Ω (11, b0), vS Ω (11, b0)), (7, b0 + 8, vF Ω (7, b0 + 8), vS Ω (7, b0 + 8)), (0, bk, vF Ω (0, bk), vS Ω (0, bk))] := ⟨h11, h7, h0, trivial⟩
  have c1 := pX11_many_ok (l := l) (h := H) (b0 := b0) (f0 := vF Ω (11, b0)) (f1 := vF Ω (7, b0 + 8)) (f2 := vF Ω (0, bk)) (b2 := bk) (wO_ok hO hm (by simp)) hq (vS Ω (11, b0)) (vS Ω (7, b0 + 8)) (vS Ω (0, bk)) a0 _ e3
  rw [wO_lay hO hm] at c1
  exact tw (L := [(11, b0, vF Ω (11, b0), uI (vS Ω (11, b0)) 11 (s'.1 0)), (7, b0 + 8, vF Ω (7, b0 + 8), vS Ω (7, b0 + 8)), (0, bk, vF Ω (0, bk), vS Ω (0, bk))]) (s' := s') hO hh (oS_of hm rfl) hV.1.1 (by simp) c1 (fun h hh => pX12_many_ok hh _ a0 (a, s') e1) (iv_q hV (by simp [h7, h0]) ((oUc _ _ _ _).trans (if_pos rfl)) e2) (by omega) (by omega)
theorem m_change (hI : INV b0 mo k H) (a0 : Int32) (a1 : Int32) : ∃ r H1 H2, aMet l 2 yX11_change cX11_change 4 (some .int) (.ref b0 :: [.int a0, .int a1]) H r H1 ∧ aMet l 21 yX12_change cX12_change 4 (some .int) (.ref mo :: [.int a0, .int a1]) H1 r H2 ∧ INV b0 mo (k + 1) H2 ∧ rcv mo H1 ∧ okR (some .int) r := by
  obtain ⟨Ω, c, hO, hh, hV, hr1, hr2⟩ := hI
  obtain ⟨B, nm, nmI, O, Hh, nO, bk, h13, h11, h8, h7, h0, hq, h26, h30, hB, hw, hR, hnm, hnmI, hH, hHc, hHw, hOw, hOr, hOc, hlog⟩ := iv_now hV
  obtain ⟨a, s', e1, e2, e3⟩ := q_change (s0 := vS Ω (11, b0)) (s1 := vS Ω (7, b0 + 8)) hB hw hR a0 a1
  have hm : oM Ω [(11, b0, vF Ω (11, b0), vS Ω (11, b0)), (7, b0 + 8, vF Ω (7, b0 + 8), vS Ω (7, b0 + 8)), (0, bk, vF Ω (0, bk), vS Ω (0, bk))] := ⟨h11, h7, h0, trivial⟩
  have c1 := pX11_change_ok (l := l) (h := H) (b0 := b0) (f0 := vF Ω (11, b0)) (f1 := vF Ω (7, b0 + 8)) (f2 := vF Ω (0, bk)) (b2 := bk) (wO_ok hO hm (by simp)) hq (vS Ω (11, b0)) (vS Ω (7, b0 + 8)) (vS Ω (0, bk)) a0 a1 _ e3
  rw [wO_lay hO hm] at c1
  exact tw (L := [(11, b0, vF Ω (11, b0), uI (vS Ω (11, b0)) 11 (s'.1 0)), (7, b0 + 8, vF Ω (7, b0 + 8), vS Ω (7, b0 + 8)), (0, bk, vF Ω (0, bk), vS Ω (0, bk))]) (s' := s') hO hh (oS_of hm rfl) hV.1.1 (by simp) c1 (fun h hh => pX12_change_ok hh _ a0 a1 (a, s') e1) (iv_q hV (by simp [h7, h0]) ((oUc _ _ _ _).trans (if_pos rfl)) e2) (by omega) (by omega)
theorem m_hangs (hI : INV b0 mo k H) (a0 : Int32) (a1 : Int32) : ∃ r H1 H2, aMet l 1 yX11_hangs cX11_hangs 4 (some .int) (.ref b0 :: [.int a0, .int a1]) H r H1 ∧ aMet l 2 yX12_hangs cX12_hangs 3 (some .int) (.ref mo :: [.int a0, .int a1]) H1 r H2 ∧ INV b0 mo (k + 1) H2 ∧ rcv mo H1 ∧ okR (some .int) r := by
  obtain ⟨Ω, c, hO, hh, hV, hr1, hr2⟩ := hI
  obtain ⟨B, nm, nmI, O, Hh, nO, bk, h13, h11, h8, h7, h0, hq, h26, h30, hB, hw, hR, hnm, hnmI, hH, hHc, hHw, hOw, hOr, hOc, hlog⟩ := iv_now hV
  obtain ⟨a, s', e1, e2, e3⟩ := q_hangs (s0 := vS Ω (11, b0)) (s1 := vS Ω (7, b0 + 8)) hB hw hR a0 a1
  have hm : oM Ω [(11, b0, vF Ω (11, b0), vS Ω (11, b0)), (7, b0 + 8, vF Ω (7, b0 + 8), vS Ω (7, b0 + 8)), (0, bk, vF Ω (0, bk), vS Ω (0, bk))] := ⟨h11, h7, h0, trivial⟩
  have c1 := pX11_hangs_ok (l := l) (h := H) (b0 := b0) (f0 := vF Ω (11, b0)) (f1 := vF Ω (7, b0 + 8)) (f2 := vF Ω (0, bk)) (b2 := bk) (wO_ok hO hm (by simp)) hq (vS Ω (11, b0)) (vS Ω (7, b0 + 8)) (vS Ω (0, bk)) a0 a1 _ e3
  rw [wO_lay hO hm] at c1
  exact tw (L := [(11, b0, vF Ω (11, b0), uI (vS Ω (11, b0)) 11 (s'.1 0)), (7, b0 + 8, vF Ω (7, b0 + 8), vS Ω (7, b0 + 8)), (0, bk, vF Ω (0, bk), vS Ω (0, bk))]) (s' := s') hO hh (oS_of hm rfl) hV.1.1 (by simp) c1 (fun h hh => pX12_hangs_ok hh _ a0 a1 (a, s') e1) (iv_q hV (by simp [h7, h0]) ((oUc _ _ _ _).trans (if_pos rfl)) e2) (by omega) (by omega)
theorem m_holds (hI : INV b0 mo k H) (a0 : Int32) : ∃ r H1 H2, aMet l 3 yX11_holds cX11_holds 2 (some .int) (.ref b0 :: [.int a0]) H r H1 ∧ aMet l 2 yX12_holds cX12_holds 2 (some .int) (.ref mo :: [.int a0]) H1 r H2 ∧ INV b0 mo (k + 1) H2 ∧ rcv mo H1 ∧ okR (some .int) r := by
  obtain ⟨Ω, c, hO, hh, hV, hr1, hr2⟩ := hI
  obtain ⟨B, nm, nmI, O, Hh, nO, bk, h13, h11, h8, h7, h0, hq, h26, h30, hB, hw, hR, hnm, hnmI, hH, hHc, hHw, hOw, hOr, hOc, hlog⟩ := iv_now hV
  obtain ⟨a, s', e1, e2, e3⟩ := q_holds (s0 := vS Ω (11, b0)) (s1 := vS Ω (7, b0 + 8)) hB hw hR a0
  have hm : oM Ω [(11, b0, vF Ω (11, b0), vS Ω (11, b0)), (7, b0 + 8, vF Ω (7, b0 + 8), vS Ω (7, b0 + 8)), (0, bk, vF Ω (0, bk), vS Ω (0, bk))] := ⟨h11, h7, h0, trivial⟩
  have c1 := pX11_holds_ok (l := l) (h := H) (b0 := b0) (f0 := vF Ω (11, b0)) (f1 := vF Ω (7, b0 + 8)) (f2 := vF Ω (0, bk)) (b2 := bk) (wO_ok hO hm (by simp)) hq (vS Ω (11, b0)) (vS Ω (7, b0 + 8)) (vS Ω (0, bk)) a0 _ e3
  rw [wO_lay hO hm] at c1
  exact tw (L := [(11, b0, vF Ω (11, b0), uI (vS Ω (11, b0)) 11 (s'.1 0)), (7, b0 + 8, vF Ω (7, b0 + 8), vS Ω (7, b0 + 8)), (0, bk, vF Ω (0, bk), vS Ω (0, bk))]) (s' := s') hO hh (oS_of hm rfl) hV.1.1 (by simp) c1 (fun h hh => pX12_holds_ok hh _ a0 (a, s') e1) (iv_q hV (by simp [h7, h0]) ((oUc _ _ _ _).trans (if_pos rfl)) e2) (by omega) (by omega)
theorem m_lacks (hI : INV b0 mo k H) (a0 : Int32) : ∃ r H1 H2, aMet l 2 yX11_lacks cX11_lacks 2 (some .int) (.ref b0 :: [.int a0]) H r H1 ∧ aMet l 2 yX12_lacks cX12_lacks 2 (some .int) (.ref mo :: [.int a0]) H1 r H2 ∧ INV b0 mo (k + 1) H2 ∧ rcv mo H1 ∧ okR (some .int) r := by
  obtain ⟨Ω, c, hO, hh, hV, hr1, hr2⟩ := hI
  obtain ⟨B, nm, nmI, O, Hh, nO, bk, h13, h11, h8, h7, h0, hq, h26, h30, hB, hw, hR, hnm, hnmI, hH, hHc, hHw, hOw, hOr, hOc, hlog⟩ := iv_now hV
  obtain ⟨a, s', e1, e2, e3⟩ := q_lacks (s0 := vS Ω (11, b0)) (s1 := vS Ω (7, b0 + 8)) hB hw hR a0
  have hm : oM Ω [(11, b0, vF Ω (11, b0), vS Ω (11, b0)), (7, b0 + 8, vF Ω (7, b0 + 8), vS Ω (7, b0 + 8)), (0, bk, vF Ω (0, bk), vS Ω (0, bk))] := ⟨h11, h7, h0, trivial⟩
  have c1 := pX11_lacks_ok (l := l) (h := H) (b0 := b0) (f0 := vF Ω (11, b0)) (f1 := vF Ω (7, b0 + 8)) (f2 := vF Ω (0, bk)) (b2 := bk) (wO_ok hO hm (by simp)) hq (vS Ω (11, b0)) (vS Ω (7, b0 + 8)) (vS Ω (0, bk)) a0 _ e3
  rw [wO_lay hO hm] at c1
  exact tw (L := [(11, b0, vF Ω (11, b0), uI (vS Ω (11, b0)) 11 (s'.1 0)), (7, b0 + 8, vF Ω (7, b0 + 8), vS Ω (7, b0 + 8)), (0, bk, vF Ω (0, bk), vS Ω (0, bk))]) (s' := s') hO hh (oS_of hm rfl) hV.1.1 (by simp) c1 (fun h hh => pX12_lacks_ok hh _ a0 (a, s') e1) (iv_q hV (by simp [h7, h0]) ((oUc _ _ _ _).trans (if_pos rfl)) e2) (by omega) (by omega)
theorem m_out (hI : INV b0 mo k H) (a0 : Int32) (a1 : Int32) : ∃ r H1 H2, aMet l 2 yX11_out cX11_out 3 (some .int) (.ref b0 :: [.int a0, .int a1]) H r H1 ∧ aMet l 2 yX12_out cX12_out 3 (some .int) (.ref mo :: [.int a0, .int a1]) H1 r H2 ∧ INV b0 mo (k + 1) H2 ∧ rcv mo H1 ∧ okR (some .int) r := by
  obtain ⟨Ω, c, hO, hh, hV, hr1, hr2⟩ := hI
  obtain ⟨B, nm, nmI, O, Hh, nO, bk, h13, h11, h8, h7, h0, hq, h26, h30, hB, hw, hR, hnm, hnmI, hH, hHc, hHw, hOw, hOr, hOc, hlog⟩ := iv_now hV
  obtain ⟨a, s', e1, e2, e3⟩ := q_out (s0 := vS Ω (11, b0)) (s1 := vS Ω (7, b0 + 8)) hB hw hR a0 a1
  have hm : oM Ω [(11, b0, vF Ω (11, b0), vS Ω (11, b0)), (7, b0 + 8, vF Ω (7, b0 + 8), vS Ω (7, b0 + 8)), (0, bk, vF Ω (0, bk), vS Ω (0, bk))] := ⟨h11, h7, h0, trivial⟩
  have c1 := pX11_out_ok (l := l) (h := H) (b0 := b0) (f0 := vF Ω (11, b0)) (f1 := vF Ω (7, b0 + 8)) (f2 := vF Ω (0, bk)) (b2 := bk) (wO_ok hO hm (by simp)) hq (vS Ω (11, b0)) (vS Ω (7, b0 + 8)) (vS Ω (0, bk)) a0 a1 _ e3
  rw [wO_lay hO hm] at c1
  exact tw (L := [(11, b0, vF Ω (11, b0), uI (vS Ω (11, b0)) 11 (s'.1 0)), (7, b0 + 8, vF Ω (7, b0 + 8), vS Ω (7, b0 + 8)), (0, bk, vF Ω (0, bk), vS Ω (0, bk))]) (s' := s') hO hh (oS_of hm rfl) hV.1.1 (by simp) c1 (fun h hh => pX12_out_ok hh _ a0 a1 (a, s') e1) (iv_q hV (by simp [h7, h0]) ((oUc _ _ _ _).trans (if_pos rfl)) e2) (by omega) (by omega)
theorem m_pick (hI : INV b0 mo k H) (a0 : Int32) (a1 : Int32) : ∃ r H1 H2, aMet l 2 yX11_pick cX11_pick 3 (some .int) (.ref b0 :: [.int a0, .int a1]) H r H1 ∧ aMet l 2 yX12_pick cX12_pick 3 (some .int) (.ref mo :: [.int a0, .int a1]) H1 r H2 ∧ INV b0 mo (k + 1) H2 ∧ rcv mo H1 ∧ okR (some .int) r := by
  obtain ⟨Ω, c, hO, hh, hV, hr1, hr2⟩ := hI
  obtain ⟨B, nm, nmI, O, Hh, nO, bk, h13, h11, h8, h7, h0, hq, h26, h30, hB, hw, hR, hnm, hnmI, hH, hHc, hHw, hOw, hOr, hOc, hlog⟩ := iv_now hV
  obtain ⟨a, s', e1, e2, e3⟩ := q_pick (s0 := vS Ω (11, b0)) (s1 := vS Ω (7, b0 + 8)) hB hw hR a0 a1
  have hm : oM Ω [(11, b0, vF Ω (11, b0), vS Ω (11, b0)), (7, b0 + 8, vF Ω (7, b0 + 8), vS Ω (7, b0 + 8)), (0, bk, vF Ω (0, bk), vS Ω (0, bk))] := ⟨h11, h7, h0, trivial⟩
  have c1 := pX11_pick_ok (l := l) (h := H) (b0 := b0) (f0 := vF Ω (11, b0)) (f1 := vF Ω (7, b0 + 8)) (f2 := vF Ω (0, bk)) (b2 := bk) (wO_ok hO hm (by simp)) hq (vS Ω (11, b0)) (vS Ω (7, b0 + 8)) (vS Ω (0, bk)) a0 a1 _ e3
  rw [wO_lay hO hm] at c1
  exact tw (L := [(11, b0, vF Ω (11, b0), uI (vS Ω (11, b0)) 11 (s'.1 0)), (7, b0 + 8, vF Ω (7, b0 + 8), vS Ω (7, b0 + 8)), (0, bk, vF Ω (0, bk), vS Ω (0, bk))]) (s' := s') hO hh (oS_of hm rfl) hV.1.1 (by simp) c1 (fun h hh => pX12_pick_ok hh _ a0 a1 (a, s') e1) (iv_q hV (by simp [h7, h0]) ((oUc _ _ _ _).trans (if_pos rfl)) e2) (by omega) (by omega)
theorem m_heaviest (hI : INV b0 mo k H) : ∃ r H1 H2, aMet l 2 yX11_heaviest cX11_heaviest 1 (some .int) (.ref b0 :: []) H r H1 ∧ aMet l 2 yX12_heaviest cX12_heaviest 3 (some .int) (.ref mo :: []) H1 r H2 ∧ INV b0 mo (k + 1) H2 ∧ rcv mo H1 ∧ okR (some .int) r := by
  obtain ⟨Ω, c, hO, hh, hV, hr1, hr2⟩ := hI
  obtain ⟨B, nm, nmI, O, Hh, nO, bk, h13, h11, h8, h7, h0, hq, h26, h30, hB, hw, hR, hnm, hnmI, hH, hHc, hHw, hOw, hOr, hOc, hlog⟩ := iv_now hV
  obtain ⟨a, s', e1, e2, e3⟩ := q_heaviest (s0 := vS Ω (11, b0)) (s1 := vS Ω (7, b0 + 8)) hB hw hR 
  have hm : oM Ω [(11, b0, vF Ω (11, b0), vS Ω (11, b0)), (7, b0 + 8, vF Ω (7, b0 + 8), vS Ω (7, b0 + 8)), (0, bk, vF Ω (0, bk), vS Ω (0, bk))] := ⟨h11, h7, h0, trivial⟩
  have c1 := pX11_heaviest_ok (l := l) (h := H) (b0 := b0) (f0 := vF Ω (11, b0)) (f1 := vF Ω (7, b0 + 8)) (f2 := vF Ω (0, bk)) (b2 := bk) (wO_ok hO hm (by simp)) hq (vS Ω (11, b0)) (vS Ω (7, b0 + 8)) (vS Ω (0, bk))  _ e3
  rw [wO_lay hO hm] at c1
  exact tw (L := [(11, b0, vF Ω (11, b0), uI (vS Ω (11, b0)) 11 (s'.1 0)), (7, b0 + 8, vF Ω (7, b0 + 8), vS Ω (7, b0 + 8)), (0, bk, vF Ω (0, bk), vS Ω (0, bk))]) (s' := s') hO hh (oS_of hm rfl) hV.1.1 (by simp) c1 (fun h hh => pX12_heaviest_ok hh _  (a, s') e1) (iv_q hV (by simp [h7, h0]) ((oUc _ _ _ _).trans (if_pos rfl)) e2) (by omega) (by omega)
theorem m_alone (hI : INV b0 mo k H) : ∃ r H1 H2, aMet l 1 yX11_alone cX11_alone 1 (some .int) (.ref b0 :: []) H r H1 ∧ aMet l 2 yX12_alone cX12_alone 3 (some .int) (.ref mo :: []) H1 r H2 ∧ INV b0 mo (k + 1) H2 ∧ rcv mo H1 ∧ okR (some .int) r := by
  obtain ⟨Ω, c, hO, hh, hV, hr1, hr2⟩ := hI
  obtain ⟨B, nm, nmI, O, Hh, nO, bk, h13, h11, h8, h7, h0, hq, h26, h30, hB, hw, hR, hnm, hnmI, hH, hHc, hHw, hOw, hOr, hOc, hlog⟩ := iv_now hV
  obtain ⟨a, s', e1, e2, e3⟩ := q_alone (s0 := vS Ω (11, b0)) (s1 := vS Ω (7, b0 + 8)) hB hw hR 
  have hm : oM Ω [(11, b0, vF Ω (11, b0), vS Ω (11, b0)), (7, b0 + 8, vF Ω (7, b0 + 8), vS Ω (7, b0 + 8)), (0, bk, vF Ω (0, bk), vS Ω (0, bk))] := ⟨h11, h7, h0, trivial⟩
  have c1 := pX11_alone_ok (l := l) (h := H) (b0 := b0) (f0 := vF Ω (11, b0)) (f1 := vF Ω (7, b0 + 8)) (f2 := vF Ω (0, bk)) (b2 := bk) (wO_ok hO hm (by simp)) hq (vS Ω (11, b0)) (vS Ω (7, b0 + 8)) (vS Ω (0, bk))  _ e3
  rw [wO_lay hO hm] at c1
  exact tw (L := [(11, b0, vF Ω (11, b0), uI (vS Ω (11, b0)) 11 (s'.1 0)), (7, b0 + 8, vF Ω (7, b0 + 8), vS Ω (7, b0 + 8)), (0, bk, vF Ω (0, bk), vS Ω (0, bk))]) (s' := s') hO hh (oS_of hm rfl) hV.1.1 (by simp) c1 (fun h hh => pX12_alone_ok hh _  (a, s') e1) (iv_q hV (by simp [h7, h0]) ((oUc _ _ _ _).trans (if_pos rfl)) e2) (by omega) (by omega)
theorem m_quarrels (hI : INV b0 mo k H) (a0 : Int32) : ∃ r H1 H2, aMet l 3 yX11_quarrels cX11_quarrels 2 (some .int) (.ref b0 :: [.int a0]) H r H1 ∧ aMet l 6 yX12_quarrels cX12_quarrels 2 (some .int) (.ref mo :: [.int a0]) H1 r H2 ∧ INV b0 mo (k + 1) H2 ∧ rcv mo H1 ∧ okR (some .int) r := by
  obtain ⟨Ω, c, hO, hh, hV, hr1, hr2⟩ := hI
  obtain ⟨B, nm, nmI, O, Hh, nO, bk, h13, h11, h8, h7, h0, hq, h26, h30, hB, hw, hR, hnm, hnmI, hH, hHc, hHw, hOw, hOr, hOc, hlog⟩ := iv_now hV
  obtain ⟨a, s', e1, e2, e3⟩ := q_quarrels (s0 := vS Ω (11, b0)) (s1 := vS Ω (7, b0 + 8)) hB hw hR a0
  have hm : oM Ω [(11, b0, vF Ω (11, b0), vS Ω (11, b0)), (7, b0 + 8, vF Ω (7, b0 + 8), vS Ω (7, b0 + 8)), (0, bk, vF Ω (0, bk), vS Ω (0, bk))] := ⟨h11, h7, h0, trivial⟩
  have c1 := pX11_quarrels_ok (l := l) (h := H) (b0 := b0) (f0 := vF Ω (11, b0)) (f1 := vF Ω (7, b0 + 8)) (f2 := vF Ω (0, bk)) (b2 := bk) (wO_ok hO hm (by simp)) hq (vS Ω (11, b0)) (vS Ω (7, b0 + 8)) (vS Ω (0, bk)) a0 _ e3
  rw [wO_lay hO hm] at c1
  exact tw (L := [(11, b0, vF Ω (11, b0), uI (vS Ω (11, b0)) 11 (s'.1 0)), (7, b0 + 8, vF Ω (7, b0 + 8), vS Ω (7, b0 + 8)), (0, bk, vF Ω (0, bk), vS Ω (0, bk))]) (s' := s') hO hh (oS_of hm rfl) hV.1.1 (by simp) c1 (fun h hh => pX12_quarrels_ok hh _ a0 (a, s') e1) (iv_q hV (by simp [h7, h0]) ((oUc _ _ _ _).trans (if_pos rfl)) e2) (by omega) (by omega)
theorem m_with (hI : INV b0 mo k H) (a0 : Int32) (a1 : Int32) : ∃ r H1 H2, aMet l 2 yX11_with cX11_with 3 (some .int) (.ref b0 :: [.int a0, .int a1]) H r H1 ∧ aMet l 5 yX12_with cX12_with 3 (some .int) (.ref mo :: [.int a0, .int a1]) H1 r H2 ∧ INV b0 mo (k + 1) H2 ∧ rcv mo H1 ∧ okR (some .int) r := by
  obtain ⟨Ω, c, hO, hh, hV, hr1, hr2⟩ := hI
  obtain ⟨B, nm, nmI, O, Hh, nO, bk, h13, h11, h8, h7, h0, hq, h26, h30, hB, hw, hR, hnm, hnmI, hH, hHc, hHw, hOw, hOr, hOc, hlog⟩ := iv_now hV
  obtain ⟨a, s', e1, e2, e3⟩ := q_with (s0 := vS Ω (11, b0)) (s1 := vS Ω (7, b0 + 8)) hB hw hR a0 a1
  have hm : oM Ω [(11, b0, vF Ω (11, b0), vS Ω (11, b0)), (7, b0 + 8, vF Ω (7, b0 + 8), vS Ω (7, b0 + 8)), (0, bk, vF Ω (0, bk), vS Ω (0, bk))] := ⟨h11, h7, h0, trivial⟩
  have c1 := pX11_with_ok (l := l) (h := H) (b0 := b0) (f0 := vF Ω (11, b0)) (f1 := vF Ω (7, b0 + 8)) (f2 := vF Ω (0, bk)) (b2 := bk) (wO_ok hO hm (by simp)) hq (vS Ω (11, b0)) (vS Ω (7, b0 + 8)) (vS Ω (0, bk)) a0 a1 _ e3
  rw [wO_lay hO hm] at c1
  exact tw (L := [(11, b0, vF Ω (11, b0), uI (vS Ω (11, b0)) 11 (s'.1 0)), (7, b0 + 8, vF Ω (7, b0 + 8), vS Ω (7, b0 + 8)), (0, bk, vF Ω (0, bk), vS Ω (0, bk))]) (s' := s') hO hh (oS_of hm rfl) hV.1.1 (by simp) c1 (fun h hh => pX12_with_ok hh _ a0 a1 (a, s') e1) (iv_q hV (by simp [h7, h0]) ((oUc _ _ _ _).trans (if_pos rfl)) e2) (by omega) (by omega)
theorem m_has (hI : INV b0 mo k H) (a0 : Int32) : ∃ r H1 H2, aMet l 1 yX11_has cX11_has 2 (some .int) (.ref b0 :: [.int a0]) H r H1 ∧ aMet l 2 yX12_has cX12_has 2 (some .int) (.ref mo :: [.int a0]) H1 r H2 ∧ INV b0 mo (k + 1) H2 ∧ rcv mo H1 ∧ okR (some .int) r := by
  obtain ⟨Ω, c, hO, hh, hV, hr1, hr2⟩ := hI
  obtain ⟨B, nm, nmI, O, Hh, nO, bk, h13, h11, h8, h7, h0, hq, h26, h30, hB, hw, hR, hnm, hnmI, hH, hHc, hHw, hOw, hOr, hOc, hlog⟩ := iv_now hV
  obtain ⟨a, s', e1, e2, e3⟩ := q_has (s0 := vS Ω (11, b0)) (s1 := vS Ω (7, b0 + 8)) hB hw hR hH hHc a0
  have hm : oM Ω [(11, b0, vF Ω (11, b0), vS Ω (11, b0)), (7, b0 + 8, vF Ω (7, b0 + 8), vS Ω (7, b0 + 8)), (0, bk, vF Ω (0, bk), vS Ω (0, bk))] := ⟨h11, h7, h0, trivial⟩
  have c1 := pX11_has_ok (l := l) (h := H) (b0 := b0) (f0 := vF Ω (11, b0)) (f1 := vF Ω (7, b0 + 8)) (f2 := vF Ω (0, bk)) (b2 := bk) (wO_ok hO hm (by simp)) hq (vS Ω (11, b0)) (vS Ω (7, b0 + 8)) (vS Ω (0, bk)) a0 _ e3
  rw [wO_lay hO hm] at c1
  exact tw (L := [(11, b0, vF Ω (11, b0), uI (vS Ω (11, b0)) 11 (s'.1 0)), (7, b0 + 8, vF Ω (7, b0 + 8), vS Ω (7, b0 + 8)), (0, bk, vF Ω (0, bk), vS Ω (0, bk))]) (s' := s') hO hh (oS_of hm rfl) hV.1.1 (by simp) c1 (fun h hh => pX12_has_ok hh _ a0 (a, s') e1) (iv_q hV (by simp [h7, h0]) ((oUc _ _ _ _).trans (if_pos rfl)) e2) (by omega) (by omega)
theorem m_size (hI : INV b0 mo k H) (a0 : Int32) : ∃ r H1 H2, aMet l 4 yX11_size cX11_size 3 (some .int) (.ref b0 :: [.int a0]) H r H1 ∧ aMet l 7 yX12_size cX12_size 2 (some .int) (.ref mo :: [.int a0]) H1 r H2 ∧ INV b0 mo (k + 1) H2 ∧ rcv mo H1 ∧ okR (some .int) r := by
  obtain ⟨Ω, c, hO, hh, hV, hr1, hr2⟩ := hI
  obtain ⟨B, nm, nmI, O, Hh, nO, bk, h13, h11, h8, h7, h0, hq, h26, h30, hB, hw, hR, hnm, hnmI, hH, hHc, hHw, hOw, hOr, hOc, hlog⟩ := iv_now hV
  obtain ⟨a, s', q', e1, e2, e3⟩ := q_size (s0 := vS Ω (11, b0)) (s1 := vS Ω (7, b0 + 8)) (s3 := vS Ω (2, b0 + 26)) hB hw hR a0
  have hm : oM Ω [(11, b0, vF Ω (11, b0), vS Ω (11, b0)), (7, b0 + 8, vF Ω (7, b0 + 8), vS Ω (7, b0 + 8)), (0, bk, vF Ω (0, bk), vS Ω (0, bk)), (2, b0 + 26, vF Ω (2, b0 + 26), vS Ω (2, b0 + 26))] := ⟨h11, h7, h0, h26, trivial⟩
  have c1 := pX11_size_ok (l := l) (h := H) (b0 := b0) (f0 := vF Ω (11, b0)) (f1 := vF Ω (7, b0 + 8)) (f2 := vF Ω (0, bk)) (f3 := vF Ω (2, b0 + 26)) (b2 := bk) (wO_ok hO hm (by simp)) hq (vS Ω (11, b0)) (vS Ω (7, b0 + 8)) (vS Ω (0, bk)) (vS Ω (2, b0 + 26)) a0 _ e3
  rw [wO_lay hO hm] at c1
  exact tw (L := [(11, b0, vF Ω (11, b0), uI (vS Ω (11, b0)) 11 (s'.1 0)), (7, b0 + 8, vF Ω (7, b0 + 8), vS Ω (7, b0 + 8)), (0, bk, vF Ω (0, bk), vS Ω (0, bk)), (2, b0 + 26, vF Ω (2, b0 + 26), q')]) (s' := s') hO hh (oS_of hm rfl) hV.1.1 (by simp) c1 (fun h hh => pX12_size_ok hh _ a0 (a, s') e1) (iv_q hV (by simp [h7, h0]) ((oUc _ _ _ _).trans (if_pos rfl)) e2) (by omega) (by omega)
theorem m_thing (hI : INV b0 mo k H) (a0 : Int32) (a1 : Int32) : ∃ r H1 H2, aMet l 4 yX11_thing cX11_thing 4 (some .int) (.ref b0 :: [.int a0, .int a1]) H r H1 ∧ aMet l 7 yX12_thing cX12_thing 3 (some .int) (.ref mo :: [.int a0, .int a1]) H1 r H2 ∧ INV b0 mo (k + 1) H2 ∧ rcv mo H1 ∧ okR (some .int) r := by
  obtain ⟨Ω, c, hO, hh, hV, hr1, hr2⟩ := hI
  obtain ⟨B, nm, nmI, O, Hh, nO, bk, h13, h11, h8, h7, h0, hq, h26, h30, hB, hw, hR, hnm, hnmI, hH, hHc, hHw, hOw, hOr, hOc, hlog⟩ := iv_now hV
  obtain ⟨a, s', q', e1, e2, e3⟩ := q_thing (s0 := vS Ω (11, b0)) (s1 := vS Ω (7, b0 + 8)) (s3 := vS Ω (2, b0 + 26)) hB hw hR a0 a1
  have hm : oM Ω [(11, b0, vF Ω (11, b0), vS Ω (11, b0)), (7, b0 + 8, vF Ω (7, b0 + 8), vS Ω (7, b0 + 8)), (0, bk, vF Ω (0, bk), vS Ω (0, bk)), (2, b0 + 26, vF Ω (2, b0 + 26), vS Ω (2, b0 + 26))] := ⟨h11, h7, h0, h26, trivial⟩
  have c1 := pX11_thing_ok (l := l) (h := H) (b0 := b0) (f0 := vF Ω (11, b0)) (f1 := vF Ω (7, b0 + 8)) (f2 := vF Ω (0, bk)) (f3 := vF Ω (2, b0 + 26)) (b2 := bk) (wO_ok hO hm (by simp)) hq (vS Ω (11, b0)) (vS Ω (7, b0 + 8)) (vS Ω (0, bk)) (vS Ω (2, b0 + 26)) a0 a1 _ e3
  rw [wO_lay hO hm] at c1
  exact tw (L := [(11, b0, vF Ω (11, b0), uI (vS Ω (11, b0)) 11 (s'.1 0)), (7, b0 + 8, vF Ω (7, b0 + 8), vS Ω (7, b0 + 8)), (0, bk, vF Ω (0, bk), vS Ω (0, bk)), (2, b0 + 26, vF Ω (2, b0 + 26), q')]) (s' := s') hO hh (oS_of hm rfl) hV.1.1 (by simp) c1 (fun h hh => pX12_thing_ok hh _ a0 a1 (a, s') e1) (iv_q hV (by simp [h7, h0]) ((oUc _ _ _ _).trans (if_pos rfl)) e2) (by omega) (by omega)
theorem m_says (hI : INV b0 mo k H) (a0 : Int32) (a1 : Int32) : ∃ r H1 H2, aMet l 5 yX11_says cX11_says 4 (some .int) (.ref b0 :: [.int a0, .int a1]) H r H1 ∧ aMet l 7 yX12_says cX12_says 3 (some .int) (.ref mo :: [.int a0, .int a1]) H1 r H2 ∧ INV b0 mo (k + 1) H2 ∧ rcv mo H1 ∧ okR (some .int) r := by
  obtain ⟨Ω, c, hO, hh, hV, hr1, hr2⟩ := hI
  obtain ⟨B, nm, nmI, O, Hh, nO, bk, h13, h11, h8, h7, h0, hq, h26, h30, hB, hw, hR, hnm, hnmI, hH, hHc, hHw, hOw, hOr, hOc, hlog⟩ := iv_now hV
  obtain ⟨a, s', q', e1, e2, e3⟩ := q_says (s0 := vS Ω (11, b0)) (s1 := vS Ω (7, b0 + 8)) (s3 := vS Ω (2, b0 + 26)) hB hw hR a0 a1
  have hm : oM Ω [(11, b0, vF Ω (11, b0), vS Ω (11, b0)), (7, b0 + 8, vF Ω (7, b0 + 8), vS Ω (7, b0 + 8)), (0, bk, vF Ω (0, bk), vS Ω (0, bk)), (2, b0 + 26, vF Ω (2, b0 + 26), vS Ω (2, b0 + 26))] := ⟨h11, h7, h0, h26, trivial⟩
  have c1 := pX11_says_ok (l := l) (h := H) (b0 := b0) (f0 := vF Ω (11, b0)) (f1 := vF Ω (7, b0 + 8)) (f2 := vF Ω (0, bk)) (f3 := vF Ω (2, b0 + 26)) (b2 := bk) (wO_ok hO hm (by simp)) hq (vS Ω (11, b0)) (vS Ω (7, b0 + 8)) (vS Ω (0, bk)) (vS Ω (2, b0 + 26)) a0 a1 _ e3
  rw [wO_lay hO hm] at c1
  exact tw (L := [(11, b0, vF Ω (11, b0), uI (vS Ω (11, b0)) 11 (s'.1 0)), (7, b0 + 8, vF Ω (7, b0 + 8), vS Ω (7, b0 + 8)), (0, bk, vF Ω (0, bk), vS Ω (0, bk)), (2, b0 + 26, vF Ω (2, b0 + 26), q')]) (s' := s') hO hh (oS_of hm rfl) hV.1.1 (by simp) c1 (fun h hh => pX12_says_ok hh _ a0 a1 (a, s') e1) (iv_q hV (by simp [h7, h0]) ((oUc _ _ _ _).trans (if_pos rfl)) e2) (by omega) (by omega)
theorem m_key (hI : INV b0 mo k H) (a0 : Int32) (a1 : Int32) : ∃ r H1 H2, aMet l 5 yX11_key cX11_key 4 (some .int) (.ref b0 :: [.int a0, .int a1]) H r H1 ∧ aMet l 7 yX12_key cX12_key 3 (some .int) (.ref mo :: [.int a0, .int a1]) H1 r H2 ∧ INV b0 mo (k + 1) H2 ∧ rcv mo H1 ∧ okR (some .int) r := by
  obtain ⟨Ω, c, hO, hh, hV, hr1, hr2⟩ := hI
  obtain ⟨B, nm, nmI, O, Hh, nO, bk, h13, h11, h8, h7, h0, hq, h26, h30, hB, hw, hR, hnm, hnmI, hH, hHc, hHw, hOw, hOr, hOc, hlog⟩ := iv_now hV
  obtain ⟨a, s', q', e1, e2, e3⟩ := q_key (s0 := vS Ω (11, b0)) (s1 := vS Ω (7, b0 + 8)) (s3 := vS Ω (2, b0 + 26)) hB hw hR a0 a1
  have hm : oM Ω [(11, b0, vF Ω (11, b0), vS Ω (11, b0)), (7, b0 + 8, vF Ω (7, b0 + 8), vS Ω (7, b0 + 8)), (0, bk, vF Ω (0, bk), vS Ω (0, bk)), (2, b0 + 26, vF Ω (2, b0 + 26), vS Ω (2, b0 + 26))] := ⟨h11, h7, h0, h26, trivial⟩
  have c1 := pX11_key_ok (l := l) (h := H) (b0 := b0) (f0 := vF Ω (11, b0)) (f1 := vF Ω (7, b0 + 8)) (f2 := vF Ω (0, bk)) (f3 := vF Ω (2, b0 + 26)) (b2 := bk) (wO_ok hO hm (by simp)) hq (vS Ω (11, b0)) (vS Ω (7, b0 + 8)) (vS Ω (0, bk)) (vS Ω (2, b0 + 26)) a0 a1 _ e3
  rw [wO_lay hO hm] at c1
  exact tw (L := [(11, b0, vF Ω (11, b0), uI (vS Ω (11, b0)) 11 (s'.1 0)), (7, b0 + 8, vF Ω (7, b0 + 8), vS Ω (7, b0 + 8)), (0, bk, vF Ω (0, bk), vS Ω (0, bk)), (2, b0 + 26, vF Ω (2, b0 + 26), q')]) (s' := s') hO hh (oS_of hm rfl) hV.1.1 (by simp) c1 (fun h hh => pX12_key_ok hh _ a0 a1 (a, s') e1) (iv_q hV (by simp [h7, h0]) ((oUc _ _ _ _).trans (if_pos rfl)) e2) (by omega) (by omega)
theorem m_place (hI : INV b0 mo k H) (a0 : Int32) (a1 : Int32) : ∃ r H1 H2, aMet l 5 yX11_place cX11_place 3 (some .int) (.ref b0 :: [.int a0, .int a1]) H r H1 ∧ aMet l 8 yX12_place cX12_place 3 (some .int) (.ref mo :: [.int a0, .int a1]) H1 r H2 ∧ INV b0 mo (k + 1) H2 ∧ rcv mo H1 ∧ okR (some .int) r := by
  obtain ⟨Ω, c, hO, hh, hV, hr1, hr2⟩ := hI
  obtain ⟨B, nm, nmI, O, Hh, nO, bk, h13, h11, h8, h7, h0, hq, h26, h30, hB, hw, hR, hnm, hnmI, hH, hHc, hHw, hOw, hOr, hOc, hlog⟩ := iv_now hV
  obtain ⟨a, s', q', e1, e2, e3⟩ := q_place (s0 := vS Ω (11, b0)) (s1 := vS Ω (7, b0 + 8)) (s3 := vS Ω (2, b0 + 26)) hB hw hR a0 a1
  have hm : oM Ω [(11, b0, vF Ω (11, b0), vS Ω (11, b0)), (7, b0 + 8, vF Ω (7, b0 + 8), vS Ω (7, b0 + 8)), (0, bk, vF Ω (0, bk), vS Ω (0, bk)), (2, b0 + 26, vF Ω (2, b0 + 26), vS Ω (2, b0 + 26))] := ⟨h11, h7, h0, h26, trivial⟩
  have c1 := pX11_place_ok (l := l) (h := H) (b0 := b0) (f0 := vF Ω (11, b0)) (f1 := vF Ω (7, b0 + 8)) (f2 := vF Ω (0, bk)) (f3 := vF Ω (2, b0 + 26)) (b2 := bk) (wO_ok hO hm (by simp)) hq (vS Ω (11, b0)) (vS Ω (7, b0 + 8)) (vS Ω (0, bk)) (vS Ω (2, b0 + 26)) a0 a1 _ e3
  rw [wO_lay hO hm] at c1
  exact tw (L := [(11, b0, vF Ω (11, b0), uI (vS Ω (11, b0)) 11 (s'.1 0)), (7, b0 + 8, vF Ω (7, b0 + 8), vS Ω (7, b0 + 8)), (0, bk, vF Ω (0, bk), vS Ω (0, bk)), (2, b0 + 26, vF Ω (2, b0 + 26), q')]) (s' := s') hO hh (oS_of hm rfl) hV.1.1 (by simp) c1 (fun h hh => pX12_place_ok hh _ a0 a1 (a, s') e1) (iv_q hV (by simp [h7, h0]) ((oUc _ _ _ _).trans (if_pos rfl)) e2) (by omega) (by omega)
theorem m_acts (hI : INV b0 mo k H) (a0 : Int32) : ∃ r H1 H2, aMet l 4 yX11_acts cX11_acts 4 (some .int) (.ref b0 :: [.int a0]) H r H1 ∧ aMet l 8 yX12_acts cX12_acts 4 (some .int) (.ref mo :: [.int a0]) H1 r H2 ∧ INV b0 mo (k + 1) H2 ∧ rcv mo H1 ∧ okR (some .int) r := by
  obtain ⟨Ω, c, hO, hh, hV, hr1, hr2⟩ := hI
  obtain ⟨B, nm, nmI, O, Hh, nO, bk, h13, h11, h8, h7, h0, hq, h26, h30, hB, hw, hR, hnm, hnmI, hH, hHc, hHw, hOw, hOr, hOc, hlog⟩ := iv_now hV
  obtain ⟨a, s', q', e1, e2, e3⟩ := q_acts (s0 := vS Ω (11, b0)) (s3 := vS Ω (2, b0 + 26)) hB hw hR hOw hOr hOc a0
  have hm : oM Ω [(11, b0, vF Ω (11, b0), vS Ω (11, b0)), (7, b0 + 8, vF Ω (7, b0 + 8), vS Ω (7, b0 + 8)), (0, bk, vF Ω (0, bk), vS Ω (0, bk)), (2, b0 + 26, vF Ω (2, b0 + 26), vS Ω (2, b0 + 26))] := ⟨h11, h7, h0, h26, trivial⟩
  have c1 := pX11_acts_ok (l := l) (h := H) (b0 := b0) (f0 := vF Ω (11, b0)) (f1 := vF Ω (7, b0 + 8)) (f2 := vF Ω (0, bk)) (f3 := vF Ω (2, b0 + 26)) (b2 := bk) (wO_ok hO hm (by simp)) hq (vS Ω (11, b0)) (vS Ω (7, b0 + 8)) (vS Ω (0, bk)) (vS Ω (2, b0 + 26)) a0 _ e3
  rw [wO_lay hO hm] at c1
  exact tw (L := [(11, b0, vF Ω (11, b0), uI (vS Ω (11, b0)) 11 (s'.1 0)), (7, b0 + 8, vF Ω (7, b0 + 8), vS Ω (7, b0 + 8)), (0, bk, vF Ω (0, bk), vS Ω (0, bk)), (2, b0 + 26, vF Ω (2, b0 + 26), q')]) (s' := s') hO hh (oS_of hm rfl) hV.1.1 (by simp) c1 (fun h hh => pX12_acts_ok hh _ a0 (a, s') e1) (iv_q hV (by simp [h7, h0]) ((oUc _ _ _ _).trans (if_pos rfl)) e2) (by omega) (by omega)
theorem m_like (hI : INV b0 mo k H) (a0 : Int32) (a1 : Int32) : ∃ r H1 H2, aMet l 4 yX11_like cX11_like 5 (some .int) (.ref b0 :: [.int a0, .int a1]) H r H1 ∧ aMet l 7 yX12_like cX12_like 4 (some .int) (.ref mo :: [.int a0, .int a1]) H1 r H2 ∧ INV b0 mo (k + 1) H2 ∧ rcv mo H1 ∧ okR (some .int) r := by
  obtain ⟨Ω, c, hO, hh, hV, hr1, hr2⟩ := hI
  obtain ⟨B, nm, nmI, O, Hh, nO, bk, h13, h11, h8, h7, h0, hq, h26, h30, hB, hw, hR, hnm, hnmI, hH, hHc, hHw, hOw, hOr, hOc, hlog⟩ := iv_now hV
  obtain ⟨a, s', q', p', e1, e2, e3⟩ := q_like (s0 := vS Ω (11, b0)) (s1 := vS Ω (7, b0 + 8)) (s3 := vS Ω (2, b0 + 26)) (s4 := vS Ω (2, b0 + 30)) hB hw hR a0 a1
  have hm : oM Ω [(11, b0, vF Ω (11, b0), vS Ω (11, b0)), (7, b0 + 8, vF Ω (7, b0 + 8), vS Ω (7, b0 + 8)), (0, bk, vF Ω (0, bk), vS Ω (0, bk)), (2, b0 + 26, vF Ω (2, b0 + 26), vS Ω (2, b0 + 26)), (2, b0 + 30, vF Ω (2, b0 + 30), vS Ω (2, b0 + 30))] := ⟨h11, h7, h0, h26, h30, trivial⟩
  have c1 := pX11_like_ok (l := l) (h := H) (b0 := b0) (f0 := vF Ω (11, b0)) (f1 := vF Ω (7, b0 + 8)) (f2 := vF Ω (0, bk)) (f3 := vF Ω (2, b0 + 26)) (f4 := vF Ω (2, b0 + 30)) (b2 := bk) (wO_ok hO hm (by simp)) hq (vS Ω (11, b0)) (vS Ω (7, b0 + 8)) (vS Ω (0, bk)) (vS Ω (2, b0 + 26)) (vS Ω (2, b0 + 30)) a0 a1 _ e3
  rw [wO_lay hO hm] at c1
  exact tw (L := [(11, b0, vF Ω (11, b0), uI (vS Ω (11, b0)) 11 (s'.1 0)), (7, b0 + 8, vF Ω (7, b0 + 8), vS Ω (7, b0 + 8)), (0, bk, vF Ω (0, bk), vS Ω (0, bk)), (2, b0 + 26, vF Ω (2, b0 + 26), q'), (2, b0 + 30, vF Ω (2, b0 + 30), p')]) (s' := s') hO hh (oS_of hm rfl) hV.1.1 (by simp) c1 (fun h hh => pX12_like_ok hh _ a0 a1 (a, s') e1) (iv_q hV (by simp [h7, h0]) ((oUc _ _ _ _).trans (if_pos rfl)) e2) (by omega) (by omega)
theorem m_apart (hI : INV b0 mo k H) (a0 : Int32) (a1 : Int32) : ∃ r H1 H2, aMet l 4 yX11_apart cX11_apart 5 (some .int) (.ref b0 :: [.int a0, .int a1]) H r H1 ∧ aMet l 7 yX12_apart cX12_apart 4 (some .int) (.ref mo :: [.int a0, .int a1]) H1 r H2 ∧ INV b0 mo (k + 1) H2 ∧ rcv mo H1 ∧ okR (some .int) r := by
  obtain ⟨Ω, c, hO, hh, hV, hr1, hr2⟩ := hI
  obtain ⟨B, nm, nmI, O, Hh, nO, bk, h13, h11, h8, h7, h0, hq, h26, h30, hB, hw, hR, hnm, hnmI, hH, hHc, hHw, hOw, hOr, hOc, hlog⟩ := iv_now hV
  obtain ⟨a, s', q', p', e1, e2, e3⟩ := q_apart (s0 := vS Ω (11, b0)) (s1 := vS Ω (7, b0 + 8)) (s3 := vS Ω (2, b0 + 26)) (s4 := vS Ω (2, b0 + 30)) hB hw hR a0 a1
  have hm : oM Ω [(11, b0, vF Ω (11, b0), vS Ω (11, b0)), (7, b0 + 8, vF Ω (7, b0 + 8), vS Ω (7, b0 + 8)), (0, bk, vF Ω (0, bk), vS Ω (0, bk)), (2, b0 + 26, vF Ω (2, b0 + 26), vS Ω (2, b0 + 26)), (2, b0 + 30, vF Ω (2, b0 + 30), vS Ω (2, b0 + 30))] := ⟨h11, h7, h0, h26, h30, trivial⟩
  have c1 := pX11_apart_ok (l := l) (h := H) (b0 := b0) (f0 := vF Ω (11, b0)) (f1 := vF Ω (7, b0 + 8)) (f2 := vF Ω (0, bk)) (f3 := vF Ω (2, b0 + 26)) (f4 := vF Ω (2, b0 + 30)) (b2 := bk) (wO_ok hO hm (by simp)) hq (vS Ω (11, b0)) (vS Ω (7, b0 + 8)) (vS Ω (0, bk)) (vS Ω (2, b0 + 26)) (vS Ω (2, b0 + 30)) a0 a1 _ e3
  rw [wO_lay hO hm] at c1
  exact tw (L := [(11, b0, vF Ω (11, b0), uI (vS Ω (11, b0)) 11 (s'.1 0)), (7, b0 + 8, vF Ω (7, b0 + 8), vS Ω (7, b0 + 8)), (0, bk, vF Ω (0, bk), vS Ω (0, bk)), (2, b0 + 26, vF Ω (2, b0 + 26), q'), (2, b0 + 30, vF Ω (2, b0 + 30), p')]) (s' := s') hO hh (oS_of hm rfl) hV.1.1 (by simp) c1 (fun h hh => pX12_apart_ok hh _ a0 a1 (a, s') e1) (iv_q hV (by simp [h7, h0]) ((oUc _ _ _ _).trans (if_pos rfl)) e2) (by omega) (by omega)
theorem m_orderAt (hI : INV b0 mo k H) (a0 : Int32) : ∃ r H1 H2, aMet l 1 yX11_orderAt cX11_orderAt 2 (some .int) (.ref b0 :: [.int a0]) H r H1 ∧ aMet l 1 yX12_orderAt cX12_orderAt 2 (some .int) (.ref mo :: [.int a0]) H1 r H2 ∧ INV b0 mo (k + 1) H2 ∧ rcv mo H1 ∧ okR (some .int) r := by
  obtain ⟨Ω, c, hO, hh, hV, hr1, hr2⟩ := hI
  obtain ⟨B, nm, nmI, O, Hh, nO, bk, h13, h11, h8, h7, h0, hq, h26, h30, hB, hw, hR, hnm, hnmI, hH, hHc, hHw, hOw, hOr, hOc, hlog⟩ := iv_now hV
  obtain ⟨a, s', e1, e2, e3⟩ := q_orderAt (s0 := vS Ω (11, b0)) hw hOw hOr hOc a0
  have hm : oM Ω [(11, b0, vF Ω (11, b0), vS Ω (11, b0)), (7, b0 + 8, vF Ω (7, b0 + 8), vS Ω (7, b0 + 8))] := ⟨h11, h7, trivial⟩
  have c1 := pX11_orderAt_ok (l := l) (h := H) (b0 := b0) (f0 := vF Ω (11, b0)) (f1 := vF Ω (7, b0 + 8)) (wO_ok hO hm (by simp))  (vS Ω (11, b0)) (vS Ω (7, b0 + 8)) a0 _ e3
  rw [wO_lay hO hm] at c1
  exact tw (L := [(11, b0, vF Ω (11, b0), uI (vS Ω (11, b0)) 11 (s'.1 0)), (7, b0 + 8, vF Ω (7, b0 + 8), vS Ω (7, b0 + 8))]) (s' := s') hO hh (oS_of hm rfl) hV.1.1 (by simp) c1 (fun h hh => pX12_orderAt_ok hh _ a0 (a, s') e1) (iv_q hV (by simp [h7]) ((oUc _ _ _ _).trans (if_pos rfl)) e2) (by omega) (by omega)
theorem m_swaps (hI : INV b0 mo k H) : ∃ r H1 H2, aMet l 1 yX11_swaps cX11_swaps 1 (some .int) (.ref b0 :: []) H r H1 ∧ aMet l 1 yX12_swaps cX12_swaps 7 (some .int) (.ref mo :: []) H1 r H2 ∧ INV b0 mo (k + 1) H2 ∧ rcv mo H1 ∧ okR (some .int) r := by
  obtain ⟨Ω, c, hO, hh, hV, hr1, hr2⟩ := hI
  obtain ⟨B, nm, nmI, O, Hh, nO, bk, h13, h11, h8, h7, h0, hq, h26, h30, hB, hw, hR, hnm, hnmI, hH, hHc, hHw, hOw, hOr, hOc, hlog⟩ := iv_now hV
  obtain ⟨a, s', e1, e2, e3⟩ := q_swaps (s0 := vS Ω (11, b0)) hB hw hOw hOr hOc 
  have hm : oM Ω [(11, b0, vF Ω (11, b0), vS Ω (11, b0)), (7, b0 + 8, vF Ω (7, b0 + 8), vS Ω (7, b0 + 8))] := ⟨h11, h7, trivial⟩
  have c1 := pX11_swaps_ok (l := l) (h := H) (b0 := b0) (f0 := vF Ω (11, b0)) (f1 := vF Ω (7, b0 + 8)) (wO_ok hO hm (by simp))  (vS Ω (11, b0)) (vS Ω (7, b0 + 8))  _ e3
  rw [wO_lay hO hm] at c1
  exact tw (L := [(11, b0, vF Ω (11, b0), uI (vS Ω (11, b0)) 11 (s'.1 0)), (7, b0 + 8, vF Ω (7, b0 + 8), vS Ω (7, b0 + 8))]) (s' := s') hO hh (oS_of hm rfl) hV.1.1 (by simp) c1 (fun h hh => pX12_swaps_ok hh _  (a, s') e1) (iv_q hV (by simp [h7]) ((oUc _ _ _ _).trans (if_pos rfl)) e2) (by omega) (by omega)
theorem m_sailed (hI : INV b0 mo k H) (a0 : Int32) : ∃ r H1 H2, aMet l 1 yX11_sailed cX11_sailed 2 (some .int) (.ref b0 :: [.int a0]) H r H1 ∧ aMet l 1 yX12_sailed cX12_sailed 2 (some .int) (.ref mo :: [.int a0]) H1 r H2 ∧ INV b0 mo (k + 1) H2 ∧ rcv mo H1 ∧ okR (some .int) r := by
  obtain ⟨Ω, c, hO, hh, hV, hr1, hr2⟩ := hI
  obtain ⟨B, nm, nmI, O, Hh, nO, bk, h13, h11, h8, h7, h0, hq, h26, h30, hB, hw, hR, hnm, hnmI, hH, hHc, hHw, hOw, hOr, hOc, hlog⟩ := iv_now hV
  obtain ⟨a, s', e1, e2, e3⟩ := q_sailed (s0 := vS Ω (11, b0)) hV.2.1.2.1.1 hV.2.1.2.1.2 a0
  have hm : oM Ω [(11, b0, vF Ω (11, b0), vS Ω (11, b0))] := ⟨h11, trivial⟩
  have c1 := pX11_sailed_ok (l := l) (h := H) (b0 := b0) (f0 := vF Ω (11, b0)) (wO_ok hO hm (by simp))  (vS Ω (11, b0)) a0 _ e3
  rw [wO_lay hO hm] at c1
  exact tw (L := [(11, b0, vF Ω (11, b0), uI (vS Ω (11, b0)) 11 (s'.1 0))]) (s' := s') hO hh (oS_of hm rfl) hV.1.1 (by simp) c1 (fun h hh => pX12_sailed_ok hh _ a0 (a, s') e1) (iv_q hV (by simp [h11]) ((oUc _ _ _ _).trans (if_pos rfl)) e2) (by omega) (by omega)
end P
