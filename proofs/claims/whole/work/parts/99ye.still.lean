/-! THE LAW: calls that make nothing new (by wip/gen/law.py) -/
section P
variable {l : Launch} {b0 mo k : Nat} {H : aH}
theorem m_status (hI : INV b0 mo k H) : ∃ r H1 H2, aMet l 0 yX11_status cX11_status 1 (some .int) (.ref b0 :: []) H r H1 ∧ aMet l 0 yX12_status cX12_status 1 (some .int) (.ref mo :: []) H1 r H2 ∧ INV b0 mo (k + 1) H2 ∧ rcv mo H1 ∧ okR (some .int) r := by
  obtain ⟨Ω, c, hO, hh, hV, hr1, hr2⟩ := hI
  obtain ⟨B, nm, nmI, O, Hh, nO, bk, h13, h11, h8, h7, h0, hq, h26, h30, hB, hw, hR, hnm, hnmI, hH, hHc, hHw, hOw, hOr, hOc, hlog⟩ := iv_now hV
  have hr := hV.2.1.1
  have e3 : pX11_status (vS Ω (11, b0)) = some ((vS Ω (11, b0)).1 11) := rfl
  have e1 : pX12_status (vS Ω (13, mo)) = some ((vS Ω (11, b0)).1 11, uI (vS Ω (13, mo)) 1 (0 : Int32)) := by rw [← hr.1]; rfl
  have hm : oM Ω [(11, b0, vF Ω (11, b0), vS Ω (11, b0))] := ⟨h11, trivial⟩
  have c1 := pX11_status_ok (l := l) (h := H) (b0 := b0) (f0 := vF Ω (11, b0))  (wO_ok hO hm (by simp))  (vS Ω (11, b0))  _ e3
  rw [wO_lay hO hm] at c1
  refine tw (L := []) (s' := uI (vS Ω (13, mo)) 1 (0 : Int32)) hO hh trivial hV.1.1 (by simp) c1 (fun h hh => pX12_status_ok hh _  (_, uI (vS Ω (13, mo)) 1 (0 : Int32)) e1) (iv_q (f := vF Ω (11, b0)) hV (by simp) ?_ ⟨⟨rfl, rfl, rfl, rfl, rfl⟩, ⟨rfl, rfl⟩, ⟨rfl, rfl, rfl, rfl, rfl⟩, rfl, rfl⟩) (by omega) (by omega)
  rw [show (uI (vS Ω (13, mo)) 1 (0 : Int32)).1 0 = (vS Ω (11, b0)).1 11 from hr.1, uI_self]; exact h11
theorem m_top (hI : INV b0 mo k H) : ∃ r H1 H2, aMet l 0 yX11_top cX11_top 1 (some .long) (.ref b0 :: []) H r H1 ∧ aMet l 0 yX12_top cX12_top 1 (some .long) (.ref mo :: []) H1 r H2 ∧ INV b0 mo (k + 1) H2 ∧ rcv mo H1 ∧ okR (some .long) r := by
  obtain ⟨Ω, c, hO, hh, hV, hr1, hr2⟩ := hI
  obtain ⟨B, nm, nmI, O, Hh, nO, bk, h13, h11, h8, h7, h0, hq, h26, h30, hB, hw, hR, hnm, hnmI, hH, hHc, hHw, hOw, hOr, hOc, hlog⟩ := iv_now hV
  have hr := hV.2.1.1
  have e3 : pX11_top (vS Ω (11, b0)) = some ((vS Ω (11, b0)).2.1 12) := rfl
  have e1 : pX12_top (vS Ω (13, mo)) = some ((vS Ω (11, b0)).2.1 12, uI (vS Ω (13, mo)) 1 (0 : Int32)) := by rw [← hr.2.1]; rfl
  have hm : oM Ω [(11, b0, vF Ω (11, b0), vS Ω (11, b0))] := ⟨h11, trivial⟩
  have c1 := pX11_top_ok (l := l) (h := H) (b0 := b0) (f0 := vF Ω (11, b0))  (wO_ok hO hm (by simp))  (vS Ω (11, b0))  _ e3
  rw [wO_lay hO hm] at c1
  refine tw (L := []) (s' := uI (vS Ω (13, mo)) 1 (0 : Int32)) hO hh trivial hV.1.1 (by simp) c1 (fun h hh => pX12_top_ok hh _  (_, uI (vS Ω (13, mo)) 1 (0 : Int32)) e1) (iv_q (f := vF Ω (11, b0)) hV (by simp) ?_ ⟨⟨rfl, rfl, rfl, rfl, rfl⟩, ⟨rfl, rfl⟩, ⟨rfl, rfl, rfl, rfl, rfl⟩, rfl, rfl⟩) (by omega) (by omega)
  rw [show (uI (vS Ω (13, mo)) 1 (0 : Int32)).1 0 = (vS Ω (11, b0)).1 11 from hr.1, uI_self]; exact h11
theorem m_bottom (hI : INV b0 mo k H) : ∃ r H1 H2, aMet l 0 yX11_bottom cX11_bottom 1 (some .long) (.ref b0 :: []) H r H1 ∧ aMet l 0 yX12_bottom cX12_bottom 1 (some .long) (.ref mo :: []) H1 r H2 ∧ INV b0 mo (k + 1) H2 ∧ rcv mo H1 ∧ okR (some .long) r := by
  obtain ⟨Ω, c, hO, hh, hV, hr1, hr2⟩ := hI
  obtain ⟨B, nm, nmI, O, Hh, nO, bk, h13, h11, h8, h7, h0, hq, h26, h30, hB, hw, hR, hnm, hnmI, hH, hHc, hHw, hOw, hOr, hOc, hlog⟩ := iv_now hV
  have hr := hV.2.1.1
  have e3 : pX11_bottom (vS Ω (11, b0)) = some ((vS Ω (11, b0)).2.1 13) := rfl
  have e1 : pX12_bottom (vS Ω (13, mo)) = some ((vS Ω (11, b0)).2.1 13, uI (vS Ω (13, mo)) 1 (0 : Int32)) := by rw [← hr.2.2]; rfl
  have hm : oM Ω [(11, b0, vF Ω (11, b0), vS Ω (11, b0))] := ⟨h11, trivial⟩
  have c1 := pX11_bottom_ok (l := l) (h := H) (b0 := b0) (f0 := vF Ω (11, b0))  (wO_ok hO hm (by simp))  (vS Ω (11, b0))  _ e3
  rw [wO_lay hO hm] at c1
  refine tw (L := []) (s' := uI (vS Ω (13, mo)) 1 (0 : Int32)) hO hh trivial hV.1.1 (by simp) c1 (fun h hh => pX12_bottom_ok hh _  (_, uI (vS Ω (13, mo)) 1 (0 : Int32)) e1) (iv_q (f := vF Ω (11, b0)) hV (by simp) ?_ ⟨⟨rfl, rfl, rfl, rfl, rfl⟩, ⟨rfl, rfl⟩, ⟨rfl, rfl, rfl, rfl, rfl⟩, rfl, rfl⟩) (by omega) (by omega)
  rw [show (uI (vS Ω (13, mo)) 1 (0 : Int32)).1 0 = (vS Ω (11, b0)).1 11 from hr.1, uI_self]; exact h11
theorem m_fault (hI : INV b0 mo k H) (a0 : Int32) : ∃ r H1 H2, aMet l 0 yX11_fault cX11_fault 2 (some .int) (.ref b0 :: [.int a0]) H r H1 ∧ aMet l 0 yX12_fault cX12_fault 2 (some .int) (.ref mo :: [.int a0]) H1 r H2 ∧ INV b0 mo (k + 1) H2 ∧ rcv mo H1 ∧ okR (some .int) r := by
  obtain ⟨Ω, c, hO, hh, hV, hr1, hr2⟩ := hI
  obtain ⟨B, nm, nmI, O, Hh, nO, bk, h13, h11, h8, h7, h0, hq, h26, h30, hB, hw, hR, hnm, hnmI, hH, hHc, hHw, hOw, hOr, hOc, hlog⟩ := iv_now hV
  have hr := hV.2.1.1
  obtain ⟨a, e1, e3⟩ := q_fault (s0 := vS Ω (11, b0)) hV.2.1.2.2.1.2.1 hV.2.1.2.2.1.2.2.1 a0
  have hm : oM Ω [(11, b0, vF Ω (11, b0), vS Ω (11, b0)), (8, b0 + 2, vF Ω (8, b0 + 2), vS Ω (8, b0 + 2))] := ⟨h11, h8, trivial⟩
  have c1 := pX11_fault_ok (l := l) (h := H) (b0 := b0) (f0 := vF Ω (11, b0)) (f1 := vF Ω (8, b0 + 2))  (wO_ok hO hm (by simp))  (vS Ω (11, b0)) (vS Ω (8, b0 + 2)) a0 _ e3
  rw [wO_lay hO hm] at c1
  refine tw (L := []) (s' := uI (vS Ω (13, mo)) 1 (0 : Int32)) hO hh trivial hV.1.1 (by simp) c1 (fun h hh => pX12_fault_ok hh _ a0 (_, uI (vS Ω (13, mo)) 1 (0 : Int32)) e1) (iv_q (f := vF Ω (11, b0)) hV (by simp) ?_ ⟨⟨rfl, rfl, rfl, rfl, rfl⟩, ⟨rfl, rfl⟩, ⟨rfl, rfl, rfl, rfl, rfl⟩, rfl, rfl⟩) (by omega) (by omega)
  rw [show (uI (vS Ω (13, mo)) 1 (0 : Int32)).1 0 = (vS Ω (11, b0)).1 11 from hr.1, uI_self]; exact h11
theorem m_feed (hI : INV b0 mo k H) (a0 : Int32) (a1 : Int32) (a2 : Int32) (a3 : Int32) (a4 : Int32) : ∃ r H1 H2, aMet l 1 yX11_feed cX11_feed 6 (some .int) (.ref b0 :: [.int a0, .int a1, .int a2, .int a3, .int a4]) H r H1 ∧ aMet l 1 yX12_feed cX12_feed 6 (some .int) (.ref mo :: [.int a0, .int a1, .int a2, .int a3, .int a4]) H1 r H2 ∧ INV b0 mo (k + 1) H2 ∧ rcv mo H1 ∧ okR (some .int) r := by
  obtain ⟨Ω, c, hO, hh, hV, hr1, hr2⟩ := hI
  obtain ⟨B, nm, nmI, O, Hh, nO, bk, h13, h11, h8, h7, h0, hq, h26, h30, hB, hw, hR, hnm, hnmI, hH, hHc, hHw, hOw, hOr, hOc, hlog⟩ := iv_now hV
  obtain ⟨⟨r1, r2, r3⟩, ⟨r4, r5⟩, ⟨⟨n, r6⟩, r7, r8, r9⟩, r10⟩ := hV.2.1
  have hnow := hV.2.2.2.2
  rcases q_feed (s0 := vS Ω (11, b0)) r6 a0 a1 a2 a3 a4 with ⟨e1, e3⟩ | ⟨f, g, e1, e3, n9, e4, e5⟩
  · have hm : oM Ω [(11, b0, vF Ω (11, b0), vS Ω (11, b0)), (8, b0 + 2, vF Ω (8, b0 + 2), vS Ω (8, b0 + 2))] := ⟨h11, h8, trivial⟩
    have c1 := pX11_feed_ok (l := l) (h := H) (b0 := b0) (f0 := vF Ω (11, b0)) (f1 := vF Ω (8, b0 + 2))  (wO_ok hO hm (by simp))  (vS Ω (11, b0)) (vS Ω (8, b0 + 2)) a0 a1 a2 a3 a4 _ e3
    rw [wO_lay hO hm] at c1
    refine tw (L := []) (s' := uI (vS Ω (13, mo)) 1 (0 : Int32)) hO hh trivial hV.1.1 (by simp) c1 (fun h hh => pX12_feed_ok hh _ a0 a1 a2 a3 a4 (_, uI (vS Ω (13, mo)) 1 (0 : Int32)) e1) (iv_q (f := vF Ω (11, b0)) hV (by simp) ?_ ⟨⟨rfl, rfl, rfl, rfl, rfl⟩, ⟨rfl, rfl⟩, ⟨rfl, rfl, rfl, rfl, rfl⟩, rfl, rfl⟩) (by omega) (by omega)
    rw [show (uI (vS Ω (13, mo)) 1 (0 : Int32)).1 0 = (vS Ω (11, b0)).1 11 from r1, uI_self]; exact h11
  · have hm : oM Ω [(11, b0, vF Ω (11, b0), vS Ω (11, b0)), (8, b0 + 2, vF Ω (8, b0 + 2), vS Ω (8, b0 + 2))] := ⟨h11, h8, trivial⟩
    have c1 := pX11_feed_ok (l := l) (h := H) (b0 := b0) (f0 := vF Ω (11, b0)) (f1 := vF Ω (8, b0 + 2))  (wO_ok hO hm (by simp))  (vS Ω (11, b0)) (vS Ω (8, b0 + 2)) a0 a1 a2 a3 a4 _ e3
    rw [wO_lay hO hm] at c1
    have l8 : oU [(11, b0, vF Ω (11, b0), vS Ω (11, b0)), (8, b0 + 2, vF Ω (8, b0 + 2), uI (uA (vS Ω (8, b0 + 2)) 0 g) 2 (nI (n + 20)))] Ω (8, b0 + 2) = some (vF Ω (8, b0 + 2), uI (uA (vS Ω (8, b0 + 2)) 0 g) 2 (nI (n + 20))) := by
      rw [oUc, if_neg (by intro e; cases e), oUc, if_pos rfl]
    have l11 : oU [(11, b0, vF Ω (11, b0), vS Ω (11, b0)), (8, b0 + 2, vF Ω (8, b0 + 2), uI (uA (vS Ω (8, b0 + 2)) 0 g) 2 (nI (n + 20)))] Ω (11, b0) = some (vF Ω (11, b0), vS Ω (11, b0)) := by rw [oUc, if_pos rfl]
    have A : ∀ K : Nat × Nat, K.1 ≠ 8 → oU [(11, b0, vF Ω (11, b0), vS Ω (11, b0)), (8, b0 + 2, vF Ω (8, b0 + 2), uI (uA (vS Ω (8, b0 + 2)) 0 g) 2 (nI (n + 20)))] Ω K = Ω K := fun K hK => oU_ag (fun K => K.1 ≠ 8) (by simp [h11]) K hK
    refine tw (L := [(11, b0, vF Ω (11, b0), vS Ω (11, b0)), (8, b0 + 2, vF Ω (8, b0 + 2), uI (uA (vS Ω (8, b0 + 2)) 0 g) 2 (nI (n + 20)))]) (s' := uI (uA (uI (vS Ω (13, mo)) 1 (0 : Int32)) 3 f) 8 (nI (n + 20))) hO hh (oS_of hm rfl) hV.1.1 (by simp) c1 (fun h hh => pX12_feed_ok hh _ a0 a1 a2 a3 a4 (_, uI (uA (uI (vS Ω (13, mo)) 1 (0 : Int32)) 3 f) 8 (nI (n + 20))) e1) (iv_g hV (by simp) (by simp [h11]) ?_ rfl ?_ (fun _ _ _ => rfl) (fun _ _ _ => rfl) ?_) (by omega) (by omega)
    · rw [(v_of l11).2.2, (v_of l8).2.2]
      refine ⟨⟨r1, r2, r3⟩, ⟨r4, r5⟩, ⟨⟨n + 20, rfl, rfl, n9, fun x hx => ?_, fun x hx => ?_⟩, r7, r8, r9⟩, fun x hx => ?_⟩
      · exact e4 x hx
      · exact e5 x hx
      · show trR _ x (vS (oU [(11, b0, vF Ω (11, b0), vS Ω (11, b0)), (8, b0 + 2, vF Ω (8, b0 + 2), uI (uA (vS Ω (8, b0 + 2)) 0 g) 2 (nI (n + 20)))] Ω) (9, b0 + 79 + 2 * x))
        rw [(v_eq (A (9, b0 + 79 + 2 * x) (by show 9 ≠ 8; decide))).2.2]; exact r10 x hx
    · rw [(v_of l11).2.2]
    · exact stO_eq (fun K hK => A K (by omega)) hnow
theorem m_read (hI : INV b0 mo k H) (a0 : Int32) (a1 : Int32) : ∃ r H1 H2, aMet l 2 yX11_read cX11_read 4 (some .long) (.ref b0 :: [.int a0, .int a1]) H r H1 ∧ aMet l 2 yX12_read cX12_read 3 (some .long) (.ref mo :: [.int a0, .int a1]) H1 r H2 ∧ INV b0 mo (k + 1) H2 ∧ rcv mo H1 ∧ okR (some .long) r := by
  obtain ⟨Ω, c, hO, hh, hV, hr1, hr2⟩ := hI
  obtain ⟨B, nm, nmI, O, Hh, nO, bk, h13, h11, h8, h7, h0, hq, h26, h30, hB, hw, hR, hnm, hnmI, hH, hHc, hHw, hOw, hOr, hOc, hlog⟩ := iv_now hV
  obtain ⟨i, hi, ix1, ix2⟩ := tr_ix (b0 := b0) a0
  have h9 := v_some (hV.1.2.2.2.2.2.2 i hi)
  have ht : ∀ x, x < 4 → a0 = nI x → trR (vS Ω (13, mo)) x (vS Ω (9, b0 + 79 + 2 * i)) := fun x hx e => by
    rw [ix2 x hx e]; exact hV.2.1.2.2.2 i hi
  obtain ⟨a, s', e1, e2, e3⟩ := q_read (s0 := vS Ω (11, b0)) a0 a1 ht
  have hm : oM Ω [(11, b0, vF Ω (11, b0), vS Ω (11, b0)), (9, b0 + 79 + 2 * i, vF Ω (9, b0 + 79 + 2 * i), vS Ω (9, b0 + 79 + 2 * i))] := ⟨h11, h9, trivial⟩
  have c1 := pX11_read_ok (l := l) (h := H) (b0 := b0) (f0 := vF Ω (11, b0)) (f1 := vF Ω (9, b0 + 79 + 2 * i))  (wO_ok hO hm (by simp)) ix1 (vS Ω (11, b0)) (vS Ω (9, b0 + 79 + 2 * i)) a1 _ e3
  rw [wO_lay hO hm] at c1
  exact tw (L := [(11, b0, vF Ω (11, b0), uI (vS Ω (11, b0)) 11 (s'.1 0)), (9, b0 + 79 + 2 * i, vF Ω (9, b0 + 79 + 2 * i), vS Ω (9, b0 + 79 + 2 * i))]) (s' := s') hO hh (oS_of hm rfl) hV.1.1 (by simp) c1 (fun h hh => pX12_read_ok hh _ a0 a1 (a, s') e1) (iv_q hV (by simp [h9]) ((oUc _ _ _ _).trans (if_pos rfl)) e2) (by omega) (by omega)
theorem m_open (hI : INV b0 mo k H) (a0 : Int32) : ∃ r H1 H2, aMet l 4 yX11_open cX11_open 5 (some .int) (.ref b0 :: [.int a0]) H r H1 ∧ aMet l 2 yX12_open cX12_open 13 (some .int) (.ref mo :: [.int a0]) H1 r H2 ∧ INV b0 mo (k + 1) H2 ∧ rcv mo H1 ∧ okR (some .int) r := by
  obtain ⟨Ω, c, hO, hh, hV, hr1, hr2⟩ := hI
  obtain ⟨B, nm, nmI, O, Hh, nO, bk, h13, h11, h8, h7, h0, hq, h26, h30, hB, hw, hR, hnm, hnmI, hH, hHc, hHw, hOw, hOr, hOc, hlog⟩ := iv_now hV
  obtain ⟨i, hi, ix1, ix2⟩ := tr_ix (b0 := b0) a0
  have h9 := v_some (hV.1.2.2.2.2.2.2 i hi)
  have ht : ∀ x, x < 4 → a0 = nI x → trR (vS Ω (13, mo)) x (vS Ω (9, b0 + 79 + 2 * i)) := fun x hx e => by
    rw [ix2 x hx e]; exact hV.2.1.2.2.2 i hi
  obtain ⟨a, s', e1, e2, e3⟩ := q_open (s0 := vS Ω (11, b0)) (s1 := vS Ω (7, b0 + 8)) hB hw hR a0 ht
  have hm : oM Ω [(11, b0, vF Ω (11, b0), vS Ω (11, b0)), (7, b0 + 8, vF Ω (7, b0 + 8), vS Ω (7, b0 + 8)), (0, bk, vF Ω (0, bk), vS Ω (0, bk)), (9, b0 + 79 + 2 * i, vF Ω (9, b0 + 79 + 2 * i), vS Ω (9, b0 + 79 + 2 * i))] := ⟨h11, h7, h0, h9, trivial⟩
  have c1 := pX11_open_ok (l := l) (h := H) (b0 := b0) (f0 := vF Ω (11, b0)) (f1 := vF Ω (7, b0 + 8)) (f2 := vF Ω (0, bk)) (f3 := vF Ω (9, b0 + 79 + 2 * i)) (b2 := bk)  (wO_ok hO hm (by simp)) hq ix1 (vS Ω (11, b0)) (vS Ω (7, b0 + 8)) (vS Ω (0, bk)) (vS Ω (9, b0 + 79 + 2 * i))  _ e3
  rw [wO_lay hO hm] at c1
  exact tw (L := [(11, b0, vF Ω (11, b0), uI (vS Ω (11, b0)) 11 (s'.1 0)), (7, b0 + 8, vF Ω (7, b0 + 8), vS Ω (7, b0 + 8)), (0, bk, vF Ω (0, bk), vS Ω (0, bk)), (9, b0 + 79 + 2 * i, vF Ω (9, b0 + 79 + 2 * i), vS Ω (9, b0 + 79 + 2 * i))]) (s' := s') hO hh (oS_of hm rfl) hV.1.1 (by simp) c1 (fun h hh => pX12_open_ok hh _ a0 (a, s') e1) (iv_q hV (by simp [h7, h0, h9]) ((oUc _ _ _ _).trans (if_pos rfl)) e2) (by omega) (by omega)
theorem m_tray (hI : INV b0 mo k H) (a0 : Int32) (a1 : Int32) (a2 : Int32) : ∃ r H1 H2, aMet l 1 yX11_tray cX11_tray 4 (some .boolean) (.ref b0 :: [.int a0, .int a1, .int a2]) H r H1 ∧ aMet l 1 yX12_tray cX12_tray 5 (some .boolean) (.ref mo :: [.int a0, .int a1, .int a2]) H1 r H2 ∧ INV b0 mo (k + 1) H2 ∧ rcv mo H1 ∧ okR (some .boolean) r := by
  obtain ⟨Ω, c, hO, hh, hV, hr1, hr2⟩ := hI
  obtain ⟨B, nm, nmI, O, Hh, nO, bk, h13, h11, h8, h7, h0, hq, h26, h30, hB, hw, hR, hnm, hnmI, hH, hHc, hHw, hOw, hOr, hOc, hlog⟩ := iv_now hV
  obtain ⟨i, hi, ix1, ix2⟩ := tr_ix (b0 := b0) a0
  have h9 := v_some (hV.1.2.2.2.2.2.2 i hi)
  have ht : ∀ x, x < 4 → a0 = nI x → trR (vS Ω (13, mo)) x (vS Ω (9, b0 + 79 + 2 * i)) := fun x hx e => by
    rw [ix2 x hx e]; exact hV.2.1.2.2.2 i hi
  rcases q_tray (s0 := vS Ω (11, b0)) a0 a1 a2 ht with ⟨s', e1, e2, e3⟩ | ⟨i', s', T', hi', ei, e1, e2, e4, e5, e3⟩
  · have hm : oM Ω [(11, b0, vF Ω (11, b0), vS Ω (11, b0)), (9, b0 + 79 + 2 * i, vF Ω (9, b0 + 79 + 2 * i), vS Ω (9, b0 + 79 + 2 * i))] := ⟨h11, h9, trivial⟩
    have c1 := pX11_tray_ok (l := l) (h := H) (b0 := b0) (f0 := vF Ω (11, b0)) (f1 := vF Ω (9, b0 + 79 + 2 * i))  (wO_ok hO hm (by simp)) ix1 (vS Ω (11, b0)) (vS Ω (9, b0 + 79 + 2 * i)) a1 a2 _ e3
    rw [wO_lay hO hm] at c1
    exact tw (L := [(11, b0, vF Ω (11, b0), uI (vS Ω (11, b0)) 11 (s'.1 0)), (9, b0 + 79 + 2 * i, vF Ω (9, b0 + 79 + 2 * i), vS Ω (9, b0 + 79 + 2 * i))]) (s' := s') hO hh (oS_of hm rfl) hV.1.1 (by simp) c1 (fun h hh => pX12_tray_ok hh _ a0 a1 a2 (false, s') e1) (iv_q hV (by simp [h9]) ((oUc _ _ _ _).trans (if_pos rfl)) e2) (by omega) (by omega)
  · have ee := ix2 i' hi' ei
    subst ee
    have hm : oM Ω [(11, b0, vF Ω (11, b0), vS Ω (11, b0)), (9, b0 + 79 + 2 * i', vF Ω (9, b0 + 79 + 2 * i'), vS Ω (9, b0 + 79 + 2 * i'))] := ⟨h11, h9, trivial⟩
    have c1 := pX11_tray_ok (l := l) (h := H) (b0 := b0) (f0 := vF Ω (11, b0)) (f1 := vF Ω (9, b0 + 79 + 2 * i'))  (wO_ok hO hm (by simp)) ix1 (vS Ω (11, b0)) (vS Ω (9, b0 + 79 + 2 * i')) a1 a2 _ e3
    rw [wO_lay hO hm] at c1
    have l9 : oU [(11, b0, vF Ω (11, b0), uI (vS Ω (11, b0)) 11 0), (9, b0 + 79 + 2 * i', vF Ω (9, b0 + 79 + 2 * i'), T')] Ω (9, b0 + 79 + 2 * i') = some (vF Ω (9, b0 + 79 + 2 * i'), T') := by simp [oU]
    exact tw (L := [(11, b0, vF Ω (11, b0), uI (vS Ω (11, b0)) 11 0), (9, b0 + 79 + 2 * i', vF Ω (9, b0 + 79 + 2 * i'), T')]) (s' := s') hO hh (oS_of hm rfl) hV.1.1 (by simp) c1 (fun h hh => pX12_tray_ok hh _ a0 a1 a2 (true, s') e1) (iv_t hi' hV (by simp) (by simp [h11]) ((oUc _ _ _ _).trans (if_pos rfl)) l9 e2 e4 e5) (by omega) (by omega)
theorem m_write (hI : INV b0 mo k H) (a0 : Int32) (a1 : Int32) (a2 : Int64) : ∃ r H1 H2, aMet l 2 yX11_write cX11_write 6 (some .boolean) (.ref b0 :: [.int a0, .int a1, .long a2]) H r H1 ∧ aMet l 2 yX12_write cX12_write 5 (some .boolean) (.ref mo :: [.int a0, .int a1, .long a2]) H1 r H2 ∧ INV b0 mo (k + 1) H2 ∧ rcv mo H1 ∧ okR (some .boolean) r := by
  obtain ⟨Ω, c, hO, hh, hV, hr1, hr2⟩ := hI
  obtain ⟨B, nm, nmI, O, Hh, nO, bk, h13, h11, h8, h7, h0, hq, h26, h30, hB, hw, hR, hnm, hnmI, hH, hHc, hHw, hOw, hOr, hOc, hlog⟩ := iv_now hV
  obtain ⟨i, hi, ix1, ix2⟩ := tr_ix (b0 := b0) a0
  have h9 := v_some (hV.1.2.2.2.2.2.2 i hi)
  have ht : ∀ x, x < 4 → a0 = nI x → trR (vS Ω (13, mo)) x (vS Ω (9, b0 + 79 + 2 * i)) := fun x hx e => by
    rw [ix2 x hx e]; exact hV.2.1.2.2.2 i hi
  rcases q_write (s0 := vS Ω (11, b0)) a0 a1 a2 ht with ⟨s', e1, e2, e3⟩ | ⟨i', s', T', hi', ei, e1, e2, e4, e5, e3⟩
  · have hm : oM Ω [(11, b0, vF Ω (11, b0), vS Ω (11, b0)), (9, b0 + 79 + 2 * i, vF Ω (9, b0 + 79 + 2 * i), vS Ω (9, b0 + 79 + 2 * i))] := ⟨h11, h9, trivial⟩
    have c1 := pX11_write_ok (l := l) (h := H) (b0 := b0) (f0 := vF Ω (11, b0)) (f1 := vF Ω (9, b0 + 79 + 2 * i))  (wO_ok hO hm (by simp)) ix1 (vS Ω (11, b0)) (vS Ω (9, b0 + 79 + 2 * i)) a1 a2 _ e3
    rw [wO_lay hO hm] at c1
    exact tw (L := [(11, b0, vF Ω (11, b0), uI (vS Ω (11, b0)) 11 (s'.1 0)), (9, b0 + 79 + 2 * i, vF Ω (9, b0 + 79 + 2 * i), vS Ω (9, b0 + 79 + 2 * i))]) (s' := s') hO hh (oS_of hm rfl) hV.1.1 (by simp) c1 (fun h hh => pX12_write_ok hh _ a0 a1 a2 (false, s') e1) (iv_q hV (by simp [h9]) ((oUc _ _ _ _).trans (if_pos rfl)) e2) (by omega) (by omega)
  · have ee := ix2 i' hi' ei
    subst ee
    have hm : oM Ω [(11, b0, vF Ω (11, b0), vS Ω (11, b0)), (9, b0 + 79 + 2 * i', vF Ω (9, b0 + 79 + 2 * i'), vS Ω (9, b0 + 79 + 2 * i'))] := ⟨h11, h9, trivial⟩
    have c1 := pX11_write_ok (l := l) (h := H) (b0 := b0) (f0 := vF Ω (11, b0)) (f1 := vF Ω (9, b0 + 79 + 2 * i'))  (wO_ok hO hm (by simp)) ix1 (vS Ω (11, b0)) (vS Ω (9, b0 + 79 + 2 * i')) a1 a2 _ e3
    rw [wO_lay hO hm] at c1
    have l9 : oU [(11, b0, vF Ω (11, b0), uI (vS Ω (11, b0)) 11 0), (9, b0 + 79 + 2 * i', vF Ω (9, b0 + 79 + 2 * i'), T')] Ω (9, b0 + 79 + 2 * i') = some (vF Ω (9, b0 + 79 + 2 * i'), T') := by simp [oU]
    exact tw (L := [(11, b0, vF Ω (11, b0), uI (vS Ω (11, b0)) 11 0), (9, b0 + 79 + 2 * i', vF Ω (9, b0 + 79 + 2 * i'), T')]) (s' := s') hO hh (oS_of hm rfl) hV.1.1 (by simp) c1 (fun h hh => pX12_write_ok hh _ a0 a1 a2 (true, s') e1) (iv_t hi' hV (by simp) (by simp [h11]) ((oUc _ _ _ _).trans (if_pos rfl)) l9 e2 e4 e5) (by omega) (by omega)
theorem m_seal (hI : INV b0 mo k H) (a0 : Int32) (a1 : Int32) : ∃ r H1 H2, aMet l 3 yX11_seal cX11_seal 4 (some .int) (.ref b0 :: [.int a0, .int a1]) H r H1 ∧ aMet l 2 yX12_seal cX12_seal 8 (some .int) (.ref mo :: [.int a0, .int a1]) H1 r H2 ∧ INV b0 mo (k + 1) H2 ∧ rcv mo H1 ∧ okR (some .int) r := by
  obtain ⟨Ω, c, hO, hh, hV, hr1, hr2⟩ := hI
  obtain ⟨B, nm, nmI, O, Hh, nO, bk, h13, h11, h8, h7, h0, hq, h26, h30, hB, hw, hR, hnm, hnmI, hH, hHc, hHw, hOw, hOr, hOc, hlog⟩ := iv_now hV
  obtain ⟨i, hi, ix1, ix2⟩ := tr_ix (b0 := b0) a0
  have h9 := v_some (hV.1.2.2.2.2.2.2 i hi)
  have ht : ∀ x, x < 4 → a0 = nI x → trR (vS Ω (13, mo)) x (vS Ω (9, b0 + 79 + 2 * i)) := fun x hx e => by
    rw [ix2 x hx e]; exact hV.2.1.2.2.2 i hi
  rcases q_seal (s0 := vS Ω (11, b0)) (s1 := vS Ω (7, b0 + 8)) hB hw hR a0 a1 ht with ⟨s', e1, e2, e3⟩ | ⟨i', a, s', T', hi', ei, e1, e2, e4, e5, e3⟩
  · have hm : oM Ω [(11, b0, vF Ω (11, b0), vS Ω (11, b0)), (7, b0 + 8, vF Ω (7, b0 + 8), vS Ω (7, b0 + 8)), (0, bk, vF Ω (0, bk), vS Ω (0, bk)), (9, b0 + 79 + 2 * i, vF Ω (9, b0 + 79 + 2 * i), vS Ω (9, b0 + 79 + 2 * i))] := ⟨h11, h7, h0, h9, trivial⟩
    have c1 := pX11_seal_ok (l := l) (h := H) (b0 := b0) (f0 := vF Ω (11, b0)) (f1 := vF Ω (7, b0 + 8)) (f2 := vF Ω (0, bk)) (f3 := vF Ω (9, b0 + 79 + 2 * i)) (b2 := bk)  (wO_ok hO hm (by simp)) hq ix1 (vS Ω (11, b0)) (vS Ω (7, b0 + 8)) (vS Ω (0, bk)) (vS Ω (9, b0 + 79 + 2 * i)) a1 _ e3
    rw [wO_lay hO hm] at c1
    exact tw (L := [(11, b0, vF Ω (11, b0), uI (vS Ω (11, b0)) 11 (s'.1 0)), (7, b0 + 8, vF Ω (7, b0 + 8), vS Ω (7, b0 + 8)), (0, bk, vF Ω (0, bk), vS Ω (0, bk)), (9, b0 + 79 + 2 * i, vF Ω (9, b0 + 79 + 2 * i), vS Ω (9, b0 + 79 + 2 * i))]) (s' := s') hO hh (oS_of hm rfl) hV.1.1 (by simp) c1 (fun h hh => pX12_seal_ok hh _ a0 a1 (m1I, s') e1) (iv_q hV (by simp [h7, h0, h9]) ((oUc _ _ _ _).trans (if_pos rfl)) e2) (by omega) (by omega)
  · have ee := ix2 i' hi' ei
    subst ee
    have hm : oM Ω [(11, b0, vF Ω (11, b0), vS Ω (11, b0)), (7, b0 + 8, vF Ω (7, b0 + 8), vS Ω (7, b0 + 8)), (0, bk, vF Ω (0, bk), vS Ω (0, bk)), (9, b0 + 79 + 2 * i', vF Ω (9, b0 + 79 + 2 * i'), vS Ω (9, b0 + 79 + 2 * i'))] := ⟨h11, h7, h0, h9, trivial⟩
    have c1 := pX11_seal_ok (l := l) (h := H) (b0 := b0) (f0 := vF Ω (11, b0)) (f1 := vF Ω (7, b0 + 8)) (f2 := vF Ω (0, bk)) (f3 := vF Ω (9, b0 + 79 + 2 * i')) (b2 := bk)  (wO_ok hO hm (by simp)) hq ix1 (vS Ω (11, b0)) (vS Ω (7, b0 + 8)) (vS Ω (0, bk)) (vS Ω (9, b0 + 79 + 2 * i')) a1 _ e3
    rw [wO_lay hO hm] at c1
    have l9 : oU [(11, b0, vF Ω (11, b0), uI (vS Ω (11, b0)) 11 0), (7, b0 + 8, vF Ω (7, b0 + 8), vS Ω (7, b0 + 8)), (0, bk, vF Ω (0, bk), vS Ω (0, bk)), (9, b0 + 79 + 2 * i', vF Ω (9, b0 + 79 + 2 * i'), T')] Ω (9, b0 + 79 + 2 * i') = some (vF Ω (9, b0 + 79 + 2 * i'), T') := by simp [oU]
    exact tw (L := [(11, b0, vF Ω (11, b0), uI (vS Ω (11, b0)) 11 0), (7, b0 + 8, vF Ω (7, b0 + 8), vS Ω (7, b0 + 8)), (0, bk, vF Ω (0, bk), vS Ω (0, bk)), (9, b0 + 79 + 2 * i', vF Ω (9, b0 + 79 + 2 * i'), T')]) (s' := s') hO hh (oS_of hm rfl) hV.1.1 (by simp) c1 (fun h hh => pX12_seal_ok hh _ a0 a1 (a, s') e1) (iv_t hi' hV (by simp) (by simp [h7, h0]) ((oUc _ _ _ _).trans (if_pos rfl)) l9 e2 e4 e5) (by omega) (by omega)
end P
