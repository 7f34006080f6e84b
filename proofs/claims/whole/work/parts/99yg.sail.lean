/-! THE LAW: sail, agreed -/
/-- a pair of calls: both answer alike, and all holds as before -/
def two (l : Launch) (b0 mo k : Nat) (y y' : MethodName) (cc cc' : ByteArray) (nL nL' : Nat) (ret : Option FieldType) (As : List Value) (H : aH) : Prop := ∃ d d' r H1 H2, d ≤ 300 ∧ d' ≤ 300 ∧ aMet l d y cc nL ret (.ref b0 :: As) H r H1 ∧ aMet l d' y' cc' nL' ret (.ref mo :: As) H1 r H2 ∧ INV b0 mo (k + 1) H2 ∧ rcv mo H1 ∧ okR ret r
theorem two_of {l : Launch} {b0 mo k d d' : Nat} {y y' : MethodName} {cc cc' : ByteArray} {nL nL' : Nat} {ret : Option FieldType} {As : List Value} {H : aH} (h : ∃ r H1 H2, aMet l d y cc nL ret (.ref b0 :: As) H r H1 ∧ aMet l d' y' cc' nL' ret (.ref mo :: As) H1 r H2 ∧ INV b0 mo (k + 1) H2 ∧ rcv mo H1 ∧ okR ret r) (hd : d ≤ 300) (hd' : d' ≤ 300) : two l b0 mo k y y' cc cc' nL nL' ret As H := by
  obtain ⟨r, H1, H2, h1, h2, h3⟩ := h
  exact ⟨d, d', r, H1, H2, hd, hd', h1, h2, h3⟩
section P
variable {l : Launch} {b0 mo k : Nat} {H : aH}
theorem m_sail (hI : INV b0 mo k H) (a0 : Int32) : two l b0 mo k yX11_sail yX12_sail cX11_sail cX12_sail 3 2 (some .int) [.int a0] H := by
  obtain ⟨Ω, c, hO, hh, hV, hr1, hr2⟩ := hI
  obtain ⟨B, nm, nmI, O, Hh, nO, bk, h13, h11, h8, h7, h0, hq, h26, h30, hB, hw, hR, hnm, hnmI, hH, hHc, hHw, hOw, hOr, hOc, hlog⟩ := iv_now hV
  have h10 := v_some hV.1.2.2.2.2.2.1
  rcases hlog with ⟨l1, l2⟩ | ⟨lb, l1, h3, l3, R, T, l4⟩
  · obtain ⟨a, s', e1, e2, e3⟩ := q_sailN (s0 := vS Ω (11, b0)) (s1 := vS Ω (7, b0 + 8)) (r := vS Ω (0, bk)) (lg := vS Ω (10, b0 + 50)) l2 a0
    have hm : oM Ω [(11, b0, vF Ω (11, b0), vS Ω (11, b0)), (7, b0 + 8, vF Ω (7, b0 + 8), vS Ω (7, b0 + 8)), (0, bk, vF Ω (0, bk), vS Ω (0, bk)), (10, b0 + 50, vF Ω (10, b0 + 50), vS Ω (10, b0 + 50))] := ⟨h11, h7, h0, h10, trivial⟩
    have c1 := pX11_sailN_ok (l := l) (h := H) (b0 := b0) (f0 := vF Ω (11, b0)) (f1 := vF Ω (7, b0 + 8)) (f2 := vF Ω (0, bk)) (f3 := vF Ω (10, b0 + 50)) (b2 := bk) (wO_ok hO hm (by simp)) hq l1 (vS Ω (11, b0)) (vS Ω (7, b0 + 8)) (vS Ω (0, bk)) (vS Ω (10, b0 + 50)) a0 _ e3
    rw [wO_lay hO hm] at c1
    exact two_of (tw (L := [(11, b0, vF Ω (11, b0), uI (vS Ω (11, b0)) 11 (s'.1 0)), (7, b0 + 8, vF Ω (7, b0 + 8), vS Ω (7, b0 + 8)), (0, bk, vF Ω (0, bk), vS Ω (0, bk)), (10, b0 + 50, vF Ω (10, b0 + 50), vS Ω (10, b0 + 50))]) (s' := s') hO hh (oS_of hm rfl) hV.1.1 (by simp) c1 (fun h hh => pX12_sail_ok hh _ a0 (a, s') e1) (iv_q hV (by simp [h7, h0, h10]) ((oUc _ _ _ _).trans (if_pos rfl)) e2) (by omega) (by omega)) (by decide) (by decide)
  · have hm : oM Ω [(11, b0, vF Ω (11, b0), vS Ω (11, b0)), (7, b0 + 8, vF Ω (7, b0 + 8), vS Ω (7, b0 + 8)), (0, bk, vF Ω (0, bk), vS Ω (0, bk)), (3, lb, vF Ω (3, lb), vS Ω (3, lb)), (10, b0 + 50, vF Ω (10, b0 + 50), vS Ω (10, b0 + 50))] := ⟨h11, h7, h0, h3, h10, trivial⟩
    rcases q_sail (s0 := vS Ω (11, b0)) (s1 := vS Ω (7, b0 + 8)) (s4 := vS Ω (10, b0 + 50)) (b0 := b0) (b2 := bk) (b3 := lb) (f4 := vF Ω (10, b0 + 50)) hB hw hR hH hHc hHw l4 l3 a0 with ⟨s', e1, e2, e3⟩ | ⟨n, s', f, g, H', q', e1, e3, e4, e5, e6, e7, e8, e9, e2⟩
    · have c1 := pX11_sail_ok (l := l) (h := H) (b0 := b0) (f0 := vF Ω (11, b0)) (f1 := vF Ω (7, b0 + 8)) (f2 := vF Ω (0, bk)) (f3 := vF Ω (3, lb)) (f4 := vF Ω (10, b0 + 50)) (b2 := bk) (b3 := lb) (wO_ok hO hm (by simp)) hq l1 (vS Ω (11, b0)) (vS Ω (7, b0 + 8)) (vS Ω (0, bk)) (vS Ω (3, lb)) (vS Ω (10, b0 + 50)) a0 _ e3
      rw [wO_lay hO hm] at c1
      exact two_of (tw (L := [(11, b0, vF Ω (11, b0), uI (vS Ω (11, b0)) 11 (s'.1 0)), (7, b0 + 8, vF Ω (7, b0 + 8), vS Ω (7, b0 + 8)), (0, bk, vF Ω (0, bk), vS Ω (0, bk)), (3, lb, vF Ω (3, lb), vS Ω (3, lb)), (10, b0 + 50, vF Ω (10, b0 + 50), vS Ω (10, b0 + 50))]) (s' := s') hO hh (oS_of hm rfl) hV.1.1 (by simp) c1 (fun h hh => pX12_sail_ok hh _ a0 (m1I, s') e1) (iv_q hV (by simp [h7, h0, h3]) ((oUc _ _ _ _).trans (if_pos rfl)) e2) (by omega) (by omega)) (by decide) (by decide)
    · have c1 := pX11_sail_ok (l := l) (h := H) (b0 := b0) (f0 := vF Ω (11, b0)) (f1 := vF Ω (7, b0 + 8)) (f2 := vF Ω (0, bk)) (f3 := vF Ω (3, lb)) (f4 := vF Ω (10, b0 + 50)) (b2 := bk) (b3 := lb) (wO_ok hO hm (by simp)) hq l1 (vS Ω (11, b0)) (vS Ω (7, b0 + 8)) (vS Ω (0, bk)) (vS Ω (3, lb)) (vS Ω (10, b0 + 50)) a0 _ e3
      rw [wO_lay hO hm] at c1
      obtain ⟨⟨b1, b2, b3, b4⟩, ⟨b6, b7⟩, ⟨b8, b9, b10, hc⟩, b13⟩ := e2
      obtain ⟨⟨a1, a2, a3⟩, ⟨a4, a5⟩, ⟨⟨nn, a6⟩, a7, a8, a9⟩, a10⟩ := hV.2.1
      refine two_of (tw (L := [(11, b0, vF Ω (11, b0), uI (uI (uA (vS Ω (11, b0)) 8 f) 9 (nI 1)) 11 (nI 0)), (7, b0 + 8, vF Ω (7, b0 + 8), uA (vS Ω (7, b0 + 8)) 2 g), (0, bk, vF Ω (0, bk), vS Ω (0, bk)), (3, lb, vF Ω (3, lb), vS Ω (3, lb)), (10, b0 + 50, va_up (va_up (vF Ω (10, b0 + 50)) 7 (some bk)) 8 (some lb), q')]) (s' := s') hO hh (oS_of hm rfl) hV.1.1 (by simp) c1 (fun h hh => pX12_sail_ok hh _ a0 (nI n, s') e1) (iv_s7 (s0' := uI (uI (uA (vS Ω (11, b0)) 8 f) 9 (nI 1)) 11 (nI 0)) (s7' := uA (vS Ω (7, b0 + 8)) 2 g) (Hh := H') hV (by simp) (by simp [h0, h3]) ((oUc _ _ _ _).trans (if_pos rfl)) (by simp [oU]) h0 hq ⟨fun j hj => by rw [hc _ (by omega)]; exact hB.1 j hj, hB.2⟩ hw hR (by rw [b13]; exact hnm) (by rw [b13]; exact hnmI) e6 (fun x hx => by rw [uA_at]; exact e5 x hx) e7 hOw ⟨by rw [hc _ (by omega)]; exact hOr.1, fun x hx => by rw [hc _ (by omega)]; exact hOr.2 x hx⟩ ⟨hOc.1, fun x hx => by rw [uA_ne _ _ (by decide)]; exact hOc.2 x hx⟩ ?_ ⟨⟨e9, b6.trans a2, b7.trans a3⟩, ⟨e8, fun _ x hx => ?_⟩, ⟨⟨nn, tpR_cg b1 b10 a6⟩, b2.trans a7, b3.trans a8, a9⟩, fun x hx => trR_cg b8 b9 (by rw [b13]) (a10 x hx)⟩ b4 rfl (fun x _ _ => hc x (by omega)) (fun _ _ _ => by rw [b13])) (by omega) (by omega)) (by decide) (by decide)
      · obtain ⟨m1, m2, m3, m4, m5, m6, m7, m8⟩ := l4
        exact Or.inr ⟨lb, l1, h3, by rw [hc _ (by omega)]; exact l3, R, T, m1, m2, m3, by rw [hc _ (by omega)]; exact m4, m5, m6, m7, sg_cg m5 m6 0 R 0 T (fun _ _ _ _ => rfl) (fun x x1 x2 => hc x (by omega)) m8⟩
      · show (uA (vS Ω (11, b0)) 8 f).2.2.1 8 x = _
        rw [uA_at]; exact e4 x hx
theorem m_agreed (hI : INV b0 mo k H) (a0 a1 : Int32) : two l b0 mo k yX11_agreed yX12_agreed cX11_agreed cX12_agreed 6 7 (some .int) [.int a0, .int a1] H := by
  obtain ⟨Ω, c, hO, hh, hV, hr1, hr2⟩ := hI
  obtain ⟨B, nm, nmI, O, Hh, nO, bk, h13, h11, h8, h7, h0, hq, h26, h30, hB, hw, hR, hnm, hnmI, hH, hHc, hHw, hOw, hOr, hOc, hlog⟩ := iv_now hV
  have h10 := v_some hV.1.2.2.2.2.2.1
  rcases hlog with ⟨l1, l2⟩ | ⟨lb, l1, h3, l3, R, T, l4⟩
  · obtain ⟨a, s', e1, e2, e3⟩ := q_agreedN (s0 := vS Ω (11, b0)) (s1 := vS Ω (7, b0 + 8)) (r := vS Ω (0, bk)) (lg := vS Ω (10, b0 + 50)) l2 a0 a1
    have hm : oM Ω [(11, b0, vF Ω (11, b0), vS Ω (11, b0)), (7, b0 + 8, vF Ω (7, b0 + 8), vS Ω (7, b0 + 8)), (0, bk, vF Ω (0, bk), vS Ω (0, bk)), (10, b0 + 50, vF Ω (10, b0 + 50), vS Ω (10, b0 + 50))] := ⟨h11, h7, h0, h10, trivial⟩
    have c1 := pX11_agreedN_ok (l := l) (h := H) (b0 := b0) (f0 := vF Ω (11, b0)) (f1 := vF Ω (7, b0 + 8)) (f2 := vF Ω (0, bk)) (f3 := vF Ω (10, b0 + 50)) (b2 := bk) (wO_ok hO hm (by simp)) hq l1 (vS Ω (11, b0)) (vS Ω (7, b0 + 8)) (vS Ω (0, bk)) (vS Ω (10, b0 + 50)) a0 a1 _ e3
    rw [wO_lay hO hm] at c1
    exact two_of (tw (L := [(11, b0, vF Ω (11, b0), uI (vS Ω (11, b0)) 11 (s'.1 0)), (7, b0 + 8, vF Ω (7, b0 + 8), vS Ω (7, b0 + 8)), (0, bk, vF Ω (0, bk), vS Ω (0, bk)), (10, b0 + 50, vF Ω (10, b0 + 50), vS Ω (10, b0 + 50))]) (s' := s') hO hh (oS_of hm rfl) hV.1.1 (by simp) c1 (fun h hh => pX12_agreed_ok hh _ a0 a1 (a, s') e1) (iv_q hV (by simp [h7, h0, h10]) ((oUc _ _ _ _).trans (if_pos rfl)) e2) (by omega) (by omega)) (by decide) (by decide)
  · have hm : oM Ω [(11, b0, vF Ω (11, b0), vS Ω (11, b0)), (7, b0 + 8, vF Ω (7, b0 + 8), vS Ω (7, b0 + 8)), (0, bk, vF Ω (0, bk), vS Ω (0, bk)), (3, lb, vF Ω (3, lb), vS Ω (3, lb)), (10, b0 + 50, vF Ω (10, b0 + 50), vS Ω (10, b0 + 50))] := ⟨h11, h7, h0, h3, h10, trivial⟩
    obtain ⟨a, s', q', f', e1, e2, e3, _⟩ := q_agreed (s0 := vS Ω (11, b0)) (s1 := vS Ω (7, b0 + 8)) (s4 := vS Ω (10, b0 + 50)) (b0 := b0) (b2 := bk) (b3 := lb) (f4 := vF Ω (10, b0 + 50)) hB hw hR hH hHc hHw l4 l3 a0 a1
    have c1 := pX11_agreed_ok (l := l) (h := H) (b0 := b0) (f0 := vF Ω (11, b0)) (f1 := vF Ω (7, b0 + 8)) (f2 := vF Ω (0, bk)) (f3 := vF Ω (3, lb)) (f4 := vF Ω (10, b0 + 50)) (b2 := bk) (b3 := lb) (wO_ok hO hm (by simp)) hq l1 (vS Ω (11, b0)) (vS Ω (7, b0 + 8)) (vS Ω (0, bk)) (vS Ω (3, lb)) (vS Ω (10, b0 + 50)) a0 a1 _ e3
    rw [wO_lay hO hm] at c1
    exact two_of (tw (L := [(11, b0, vF Ω (11, b0), uI (vS Ω (11, b0)) 11 (s'.1 0)), (7, b0 + 8, vF Ω (7, b0 + 8), vS Ω (7, b0 + 8)), (0, bk, vF Ω (0, bk), vS Ω (0, bk)), (3, lb, vF Ω (3, lb), vS Ω (3, lb)), (10, b0 + 50, f', q')]) (s' := s') hO hh (oS_of hm rfl) hV.1.1 (by simp) c1 (fun h hh => pX12_agreed_ok hh _ a0 a1 (a, s') e1) (iv_q hV (by simp [h7, h0, h3]) ((oUc _ _ _ _).trans (if_pos rfl)) e2) (by omega) (by omega)) (by decide) (by decide)
end P
