/-! THE LAW: the calls that count ORDERS -/
section P
variable {l : Launch} {b0 mo k c : Nat} {H : aH} {Ω : oT}
theorem iv_s7G {c' : Nat} {s' s0' s7' : RS} {L : List XR} {B nm nmI O Hh : Nat → Nat} {nO bk : Nat} (hI : IV b0 mo k c Ω) (A : ∀ K : Nat × Nat, K.1 ≠ 11 → K.1 ≠ 10 → K.1 ≠ 5 → K.1 ≠ 12 → K ≠ (7, b0 + 8) → oU L Ω K = Ω K) (hcnt : cnt b0 (k + 1) (oU L Ω) c') (h11 : oU L Ω (11, b0) = some (vF Ω (11, b0), s0')) (h7' : oU L Ω (7, b0 + 8) = some (vF Ω (7, b0 + 8), s7')) (h0 : Ω (0, bk) = some (vF Ω (0, bk), vS Ω (0, bk))) (hq : vF Ω (7, b0 + 8) 0 = some bk) (hB : blk (s'.2.2.1 4) 0 B) (hw : wfB B) (hR : bkR B (vS Ω (0, bk))) (hnm : nmR 0 (B 0) nm (s'.2.2.2 5) ((vS Ω (0, bk)).2.2.2 3)) (hnmI : nmR 16 (B 1) nmI (s'.2.2.2 5) ((vS Ω (0, bk)).2.2.2 2)) (hH : hsR (s'.2.2.1 4) Hh) (hHc : hsC s7' Hh) (hHw : hsW B Hh) (hOw : orW B nO O) (hOr : orR (s'.2.2.1 4) nO O) (hOc : orC s7' nO O) (hlog : (vF Ω (7, b0 + 8) 1 = none ∧ s'.2.2.1 4 135 = nI 0) ∨ ∃ lb, vF Ω (7, b0 + 8) 1 = some lb ∧ Ω (3, lb) = some (vF Ω (3, lb), vS Ω (3, lb)) ∧ s'.2.2.1 4 135 = nI 1 ∧ ∃ R T, lgR B (vS Ω (3, lb)) (s'.2.2.1 4) R T) (hrel : rel s' s0' (vS Ω (8, b0 + 2)) (fun i => vS Ω (9, b0 + 79 + 2 * i))) (h22 : s'.1 22 = (vS Ω (13, mo)).1 22) (h10 : s0'.1 10 = (vS Ω (11, b0)).1 10) (hc : ∀ x, 360 ≤ x → x < 1440 → s'.2.2.1 4 x = (vS Ω (13, mo)).2.2.1 4 x) (hw5 : ∀ x, 20 ≤ x → x < 80 → s'.2.2.2 5 x = (vS Ω (13, mo)).2.2.2 5 x) : IV b0 mo (k + 1) c' (oU [(13, mo, fZ, s')] (oU L Ω)) := by
  have n7 : ∀ K : Nat × Nat, K.1 ≠ 7 → K ≠ (7, b0 + 8) := fun K h e => h (by rw [e])
  have e8 := (v_eq (A (8, b0 + 2) (by show 8 ≠ 11; decide) (by show 8 ≠ 10; decide) (by show 8 ≠ 5; decide) (by show 8 ≠ 12; decide) (n7 _ (by show 8 ≠ 7; decide)))).2.2
  have e9 : (fun i => vS (oU L Ω) (9, b0 + 79 + 2 * i)) = fun i => vS Ω (9, b0 + 79 + 2 * i) := funext fun i => (v_eq (A (9, b0 + 79 + 2 * i) (by show 9 ≠ 11; decide) (by show 9 ≠ 10; decide) (by show 9 ≠ 5; decide) (by show 9 ≠ 12; decide) (n7 _ (by show 9 ≠ 7; decide)))).2.2
  refine iv_G hI (fun K hK _ => A K (by omega) (by omega) (by omega) (by omega) (fun e => ?_)) ?_ h22 ?_ hc hw5 hcnt ?_
  · have e1 : K.1 = 7 := congrArg Prod.fst e
    have e2 : K.2 = b0 + 8 := congrArg Prod.snd e
    omega
  · rw [(v_of h11).2.2, e8, e9]; exact hrel
  · rw [(v_of h11).2.2]; exact h10
  · refine mk_now h7' hq ((A (0, bk) (by show 0 ≠ 11; decide) (by show 0 ≠ 10; decide) (by show 0 ≠ 5; decide) (by show 0 ≠ 12; decide) (n7 _ (by show 0 ≠ 7; decide))).trans h0) ?_
    rcases hlog with ⟨l1, l2⟩ | ⟨lb, l1, l2, l3, R, T, l4⟩
    · exact Or.inl ⟨l1, B, nm, nmI, O, Hh, nO, hB, hw, hR, hnm, hnmI, hH, hHc, hHw, hOw, hOr, hOc, l2⟩
    · exact Or.inr ⟨lb, _, _, l1, (A (3, lb) (by show 3 ≠ 11; decide) (by show 3 ≠ 10; decide) (by show 3 ≠ 5; decide) (by show 3 ≠ 12; decide) (n7 _ (by show 3 ≠ 7; decide))).trans l2, B, nm, nmI, O, Hh, nO, hB, hw, hR, hnm, hnmI, hH, hHc, hHw, hOw, hOr, hOc, l3, R, T, l4⟩
theorem iv_ocG {c c' : Nat} {s' s7' : RS} {L : List XR} {B nm nmI O Hh : Nat → Nat} {nO bk : Nat} (hI : IV b0 mo k c Ω) (A : ∀ K : Nat × Nat, K.1 ≠ 11 → K.1 ≠ 10 → K.1 ≠ 5 → K.1 ≠ 12 → K ≠ (7, b0 + 8) → oU L Ω K = Ω K) (hcnt : cnt b0 (k + 1) (oU L Ω) c') (h11 : oU L Ω (11, b0) = some (vF Ω (11, b0), uI (vS Ω (11, b0)) 11 (s'.1 0))) (h7' : oU L Ω (7, b0 + 8) = some (vF Ω (7, b0 + 8), s7')) (h0 : Ω (0, bk) = some (vF Ω (0, bk), vS Ω (0, bk))) (hq : vF Ω (7, b0 + 8) 0 = some bk) (hB : blk ((vS Ω (13, mo)).2.2.1 4) 0 B) (hw : wfB B) (hR : bkR B (vS Ω (0, bk))) (hnm : nmR 0 (B 0) nm ((vS Ω (13, mo)).2.2.2 5) ((vS Ω (0, bk)).2.2.2 3)) (hnmI : nmR 16 (B 1) nmI ((vS Ω (13, mo)).2.2.2 5) ((vS Ω (0, bk)).2.2.2 2)) (hH : hsR ((vS Ω (13, mo)).2.2.1 4) Hh) (hHc : hsC (vS Ω (7, b0 + 8)) Hh) (hHw : hsW B Hh) (hOw : orW B nO O) (hOr : orR ((vS Ω (13, mo)).2.2.1 4) nO O) (hOc : orC (vS Ω (7, b0 + 8)) nO O) (hlog : (vF Ω (7, b0 + 8) 1 = none ∧ (vS Ω (13, mo)).2.2.1 4 135 = nI 0) ∨ ∃ lb, vF Ω (7, b0 + 8) 1 = some lb ∧ Ω (3, lb) = some (vF Ω (3, lb), vS Ω (3, lb)) ∧ (vS Ω (13, mo)).2.2.1 4 135 = nI 1 ∧ ∃ R T, lgR B (vS Ω (3, lb)) ((vS Ω (13, mo)).2.2.1 4) R T) (hoc : oCh B (vS Ω (13, mo)) s' (vS Ω (7, b0 + 8)) s7') : IV b0 mo (k + 1) c' (oU [(13, mo, fZ, s')] (oU L Ω)) := by
  rcases hoc with ⟨hs, rfl⟩ | ⟨hs, hc, h2, n', O', o1, o2, o3⟩
  · have e4 := hs.2.2.1.2.2.2.1
    have e5 := hs.2.2.2.2
    exact iv_s7G hI A hcnt h11 h7' h0 hq (by rw [e4]; exact hB) hw hR (by rw [e5]; exact hnm) (by rw [e5]; exact hnmI) (by rw [e4]; exact hH) hHc hHw hOw (by rw [e4]; exact hOr) hOc (by rw [e4]; exact hlog) (rel_q hI.2.1 hs) hs.1.2.2.2.1 rfl (fun x _ _ => by rw [e4]) (fun x _ _ => by rw [e5])
  · have e5 := hs.2.2.2.2
    obtain ⟨⟨b1, b2, b3, b4, b5⟩, ⟨b6, b7⟩, ⟨b8, b9, b10, b12⟩, b13, b14⟩ := hs
    obtain ⟨⟨a1, a2, a3⟩, ⟨a4, a5⟩, ⟨⟨n, a6⟩, a7, a8, a9⟩, a10⟩ := hI.2.1
    refine iv_s7G hI A hcnt h11 h7' h0 hq ⟨fun j hj => by rw [hc _ (by omega)]; exact hB.1 j hj, hB.2⟩ hw hR (by rw [e5]; exact hnm) (by rw [e5]; exact hnmI) (fun i hi => by rw [hc _ (by omega)]; exact hH i hi) (fun i hi => by rw [h2]; exact hHc i hi) hHw o3 o1 o2 ?_ ⟨⟨rfl, b6.trans a2, b7.trans a3⟩, ⟨b5.trans a4, fun q i hi => by rw [b12]; exact a5 (by rw [← b5]; exact q) i hi⟩, ⟨⟨n, tpR_cg b1 b10 a6⟩, b2.trans a7, b3.trans a8, a9⟩, fun i hi => trR_cg b8 b9 b13 (a10 i hi)⟩ b4 rfl (fun x x1 _ => hc x (by omega)) (fun x _ _ => by rw [e5])
    rcases hlog with ⟨l1, l2⟩ | ⟨lb, l1, l2, l3, R, T, l4⟩
    · exact Or.inl ⟨l1, by rw [hc _ (by omega)]; exact l2⟩
    · obtain ⟨m1, m2, m3, m4, m5, m6, m7, m8⟩ := l4
      exact Or.inr ⟨lb, l1, l2, by rw [hc _ (by omega)]; exact l3, R, T, m1, m2, m3, by rw [hc _ (by omega)]; exact m4, m5, m6, m7, sg_cg m5 m6 0 R 0 T (fun _ _ _ _ => rfl) (fun x x1 x2 => hc x (by omega)) m8⟩

theorem rel_F {s s' s0 s8 : RS} {sT : Nat → RS} (h : rel s s0 s8 sT) (hs : rsF s s') (h0 : s'.1 0 = 0) {x y : Int64} (hx : s'.2.1 2 = x) (hy : s'.2.1 3 = y) : rel s' (uI (uL (uL s0 12 x) 13 y) 11 0) s8 sT := by
  obtain ⟨⟨a1, a2, a3⟩, ⟨a4, a5⟩, ⟨⟨n, a6⟩, a7, a8, a9⟩, a10⟩ := h
  obtain ⟨⟨b1, b2, b3, b4, b5⟩, ⟨b8, b9, b10, b11, b12⟩, b13, b14⟩ := hs
  exact ⟨⟨h0, hx, hy⟩, ⟨b5.trans a4, fun q i hi => by rw [b12]; exact a5 (by rw [← b5]; exact q) i hi⟩, ⟨⟨n, tpR_cg b1 b10 a6⟩, b2.trans a7, b3.trans a8, a9⟩, fun i hi => trR_cg b8 b9 b13 (a10 i hi)⟩
theorem p2c {a b : Nat} (h : 2 ^ a < 2 ^ b) : 2 * 2 ^ a ≤ 2 ^ b := by
  have h1 : a < b := by
    rcases Nat.lt_or_ge a b with q | q
    · exact q
    · have := Nat.pow_le_pow_right (n := 2) (by decide) q
      omega
  have h2 : 2 ^ (a + 1) ≤ 2 ^ b := Nat.pow_le_pow_right (by decide) h1
  rw [Nat.pow_succ] at h2
  omega
theorem cl2 {a : Nat} (h : a ≤ 16) : (nI (2 ^ a)).toNatClampNeg = 2 ^ a := by
  have : 2 ^ a ≤ 2 ^ 16 := Nat.pow_le_pow_right (by decide) h
  exact nI_clamp (by omega)
theorem m_orders (hI : INV b0 mo k H) (hk : k ≤ 600) (a0 : Int32) : two l b0 mo k yX11_orders yX12_orders cX11_orders cX12_orders 3 2 (some .long) [.int a0] H := by
  obtain ⟨Ω, c, hO, hh, hV, hr1, hr2⟩ := hI
  obtain ⟨B, nm, nmI, O, Hh, nO, bk, h13, h11, h8, h7, h0, hq, h26, h30, hB, hw, hR, hnm, hnmI, hH, hHc, hHw, hOw, hOr, hOc, hlog⟩ := iv_now hV
  obtain ⟨i5, b4, st, hf5, i12, hct, hst, hc16⟩ := hV.2.2.1
  have h5 := v_some i5
  have h12 := v_some i12
  have h16 := hw.1
  have hm : oM Ω [(11, b0, vF Ω (11, b0), vS Ω (11, b0)), (7, b0 + 8, vF Ω (7, b0 + 8), vS Ω (7, b0 + 8)), (0, bk, vF Ω (0, bk), vS Ω (0, bk)), (5, b0 + 34, vF Ω (5, b0 + 34), vS Ω (5, b0 + 34)), (12, b4, vF Ω (12, b4), vS Ω (12, b4))] := ⟨h11, h7, h0, h5, h12, trivial⟩
  rcases q_orders (s0 := vS Ω (11, b0)) (s1 := vS Ω (7, b0 + 8)) (b0 := b0) (b2 := bk) (b4 := b4) (f3 := vF Ω (5, b0 + 34)) hB hw hR hct (by omega) a0 with ⟨a, s', q, z, f', e1, e2, e3, ⟨st', es, ec⟩, ef'⟩ | ⟨a, s', q, z, e1, e2, e3, ec, el⟩
  · have c1 := pX11_ordersF_ok (l := l) (h := H) (b0 := b0) (f0 := vF Ω (11, b0)) (f1 := vF Ω (7, b0 + 8)) (f2 := vF Ω (0, bk)) (f3 := vF Ω (5, b0 + 34)) (f4 := vF Ω (12, b4)) (b2 := bk) (b4 := b4) (wO_ok hO hm (by simp)) hq hf5 (vS Ω (11, b0)) (vS Ω (7, b0 + 8)) (vS Ω (0, bk)) (vS Ω (5, b0 + 34)) (vS Ω (12, b4)) a0 _ e3
    rw [wO_lay hO hm] at c1
    have ef : f' 5 = some b4 := ef'.trans hf5
    have hcn : cnt b0 (k + 1) (oU [(11, b0, vF Ω (11, b0), uI (vS Ω (11, b0)) 11 (s'.1 0)), (7, b0 + 8, vF Ω (7, b0 + 8), vS Ω (7, b0 + 8)), (0, bk, vF Ω (0, bk), vS Ω (0, bk)), (5, b0 + 34, f', q), (12, b4, vF Ω (12, b4), z)] Ω) c := by
      have l5 : oU [(11, b0, vF Ω (11, b0), uI (vS Ω (11, b0)) 11 (s'.1 0)), (7, b0 + 8, vF Ω (7, b0 + 8), vS Ω (7, b0 + 8)), (0, bk, vF Ω (0, bk), vS Ω (0, bk)), (5, b0 + 34, f', q), (12, b4, vF Ω (12, b4), z)] Ω (5, b0 + 34) = some (f', q) := by simp [oU]
      have l12 : oU [(11, b0, vF Ω (11, b0), uI (vS Ω (11, b0)) 11 (s'.1 0)), (7, b0 + 8, vF Ω (7, b0 + 8), vS Ω (7, b0 + 8)), (0, bk, vF Ω (0, bk), vS Ω (0, bk)), (5, b0 + 34, f', q), (12, b4, vF Ω (12, b4), z)] Ω (12, b4) = some (vF Ω (12, b4), z) := by simp [oU]
      exact ⟨(v_of l5).1, b4, st', by rw [(v_of l5).2.1]; exact ef, (v_of l12).1, by rw [(v_of l5).2.2, (v_of l12).2.2]; exact ec, by omega, hc16⟩
    have hA : ∀ K : Nat × Nat, K.1 ≠ 11 → K.1 ≠ 5 → K.1 ≠ 12 → K.1 ≠ 6 → oU [(11, b0, vF Ω (11, b0), uI (vS Ω (11, b0)) 11 (s'.1 0)), (7, b0 + 8, vF Ω (7, b0 + 8), vS Ω (7, b0 + 8)), (0, bk, vF Ω (0, bk), vS Ω (0, bk)), (5, b0 + 34, f', q), (12, b4, vF Ω (12, b4), z)] Ω K = Ω K := fun K g1 g2 g3 g4 => oU_ag (fun K => K.1 ≠ 11 ∧ K.1 ≠ 5 ∧ K.1 ≠ 12) (by simp [h7, h0]) K ⟨g1, g2, g3⟩
    exact two_of (tw (L := [(11, b0, vF Ω (11, b0), uI (vS Ω (11, b0)) 11 (s'.1 0)), (7, b0 + 8, vF Ω (7, b0 + 8), vS Ω (7, b0 + 8)), (0, bk, vF Ω (0, bk), vS Ω (0, bk)), (5, b0 + 34, f', q), (12, b4, vF Ω (12, b4), z)]) (s' := s') hO hh (oS_of hm rfl) hV.1.1 (by simp) c1 (fun h hh => pX12_orders_ok hh _ a0 (a, s') e1) (iv_qc hV hA ((oUc _ _ _ _).trans (if_pos rfl)) (rel_q hV.2.1 e2) e2.1.2.2.2.1 rfl e2.2.2.1.2.2.2.1 e2.2.2.2.2 hcn) (by omega) (by omega)) (by decide) (by decide)
  · obtain ⟨H1, c1, hO1, hz⟩ := pX11_ordersG_ok (l := l) rfl hO h11 h7 h0 h5 h12 hq hf5 a0 _ e3
    rw [show (nI (2 ^ B 0)).toNatClampNeg = 2 ^ B 0 from cl2 h16] at hz
    have hcn : cnt b0 (k + 1) (oU [(11, b0, vF Ω (11, b0), uI (vS Ω (11, b0)) 11 (s'.1 0)), (5, b0 + 34, va_up (va_up (vF Ω (5, b0 + 34)) 0 (some bk)) 5 (some H.2.1), q), (12, H.2.1, fZ, z)] Ω) (B 0) := by
      have l5 : oU [(11, b0, vF Ω (11, b0), uI (vS Ω (11, b0)) 11 (s'.1 0)), (5, b0 + 34, va_up (va_up (vF Ω (5, b0 + 34)) 0 (some bk)) 5 (some H.2.1), q), (12, H.2.1, fZ, z)] Ω (5, b0 + 34) = some (va_up (va_up (vF Ω (5, b0 + 34)) 0 (some bk)) 5 (some H.2.1), q) := by simp [oU]
      have l12 : oU [(11, b0, vF Ω (11, b0), uI (vS Ω (11, b0)) 11 (s'.1 0)), (5, b0 + 34, va_up (va_up (vF Ω (5, b0 + 34)) 0 (some bk)) 5 (some H.2.1), q), (12, H.2.1, fZ, z)] Ω (12, H.2.1) = some (fZ, z) := by simp [oU]
      exact ⟨(v_of l5).1, H.2.1, 1, by rw [(v_of l5).2.1]; rfl, (v_of l12).1, by rw [(v_of l5).2.2, (v_of l12).2.2]; exact ec, by omega, h16⟩
    have hp := p2c el
    have hA : ∀ K : Nat × Nat, K.1 ≠ 11 → K.1 ≠ 5 → K.1 ≠ 12 → K.1 ≠ 6 → oU [(11, b0, vF Ω (11, b0), uI (vS Ω (11, b0)) 11 (s'.1 0)), (5, b0 + 34, va_up (va_up (vF Ω (5, b0 + 34)) 0 (some bk)) 5 (some H.2.1), q), (12, H.2.1, fZ, z)] Ω K = Ω K := fun K g1 g2 g3 g4 => oU_ag (fun K => K.1 ≠ 11 ∧ K.1 ≠ 5 ∧ K.1 ≠ 12) (by simp) K ⟨g1, g2, g3⟩
    exact twG (s' := s') hh hV.1.1 (by simp) c1 hO1 hz (by omega) (fun h hh => pX12_orders_ok hh _ a0 (a, s') e1) (iv_qc hV hA ((oUc _ _ _ _).trans (if_pos rfl)) (rel_q hV.2.1 e2) e2.1.2.2.2.1 rfl e2.2.2.1.2.2.2.1 e2.2.2.2.2 hcn) (by omega) (by omega) (by decide) (by decide)
theorem m_number (hI : INV b0 mo k H) (hk : k ≤ 600) : two l b0 mo k yX11_number yX12_number cX11_number cX12_number 1 8 (some .long) [] H := by
  obtain ⟨Ω, c, hO, hh, hV, hr1, hr2⟩ := hI
  obtain ⟨B, nm, nmI, O, Hh, nO, bk, h13, h11, h8, h7, h0, hq, h26, h30, hB, hw, hR, hnm, hnmI, hH, hHc, hHw, hOw, hOr, hOc, hlog⟩ := iv_now hV
  obtain ⟨i5, b4, st, hf5, i12, hct, hst, hc16⟩ := hV.2.2.1
  have h5 := v_some i5
  have h12 := v_some i12
  have h16 := hw.1
  have hm : oM Ω [(11, b0, vF Ω (11, b0), vS Ω (11, b0)), (7, b0 + 8, vF Ω (7, b0 + 8), vS Ω (7, b0 + 8)), (0, bk, vF Ω (0, bk), vS Ω (0, bk)), (5, b0 + 34, vF Ω (5, b0 + 34), vS Ω (5, b0 + 34)), (12, b4, vF Ω (12, b4), vS Ω (12, b4))] := ⟨h11, h7, h0, h5, h12, trivial⟩
  rcases q_number (s0 := vS Ω (11, b0)) (s1 := vS Ω (7, b0 + 8)) hB hw hR hOw hOr hOc hct (by omega) with ⟨a, s', q, z, e1, e2, e3, ⟨st', es, ec⟩⟩ | ⟨a, s', q, z, e1, e2, e3, ec, el⟩
  · have c1 := pX11_numberF_ok (l := l) (h := H) (b0 := b0) (f0 := vF Ω (11, b0)) (f1 := vF Ω (7, b0 + 8)) (f2 := vF Ω (0, bk)) (f3 := vF Ω (5, b0 + 34)) (f4 := vF Ω (12, b4)) (b2 := bk) (b4 := b4) (wO_ok hO hm (by simp)) hq hf5 (vS Ω (11, b0)) (vS Ω (7, b0 + 8)) (vS Ω (0, bk)) (vS Ω (5, b0 + 34)) (vS Ω (12, b4))  _ e3
    rw [wO_lay hO hm] at c1
    have ef : (va_up (vF Ω (5, b0 + 34)) 0 (some bk)) 5 = some b4 := hf5
    have hcn : cnt b0 (k + 1) (oU [(11, b0, vF Ω (11, b0), uI (vS Ω (11, b0)) 11 (s'.1 0)), (7, b0 + 8, vF Ω (7, b0 + 8), vS Ω (7, b0 + 8)), (0, bk, vF Ω (0, bk), vS Ω (0, bk)), (5, b0 + 34, va_up (vF Ω (5, b0 + 34)) 0 (some bk), q), (12, b4, vF Ω (12, b4), z)] Ω) c := by
      have l5 : oU [(11, b0, vF Ω (11, b0), uI (vS Ω (11, b0)) 11 (s'.1 0)), (7, b0 + 8, vF Ω (7, b0 + 8), vS Ω (7, b0 + 8)), (0, bk, vF Ω (0, bk), vS Ω (0, bk)), (5, b0 + 34, va_up (vF Ω (5, b0 + 34)) 0 (some bk), q), (12, b4, vF Ω (12, b4), z)] Ω (5, b0 + 34) = some (va_up (vF Ω (5, b0 + 34)) 0 (some bk), q) := by simp [oU]
      have l12 : oU [(11, b0, vF Ω (11, b0), uI (vS Ω (11, b0)) 11 (s'.1 0)), (7, b0 + 8, vF Ω (7, b0 + 8), vS Ω (7, b0 + 8)), (0, bk, vF Ω (0, bk), vS Ω (0, bk)), (5, b0 + 34, va_up (vF Ω (5, b0 + 34)) 0 (some bk), q), (12, b4, vF Ω (12, b4), z)] Ω (12, b4) = some (vF Ω (12, b4), z) := by simp [oU]
      exact ⟨(v_of l5).1, b4, st', by rw [(v_of l5).2.1]; exact ef, (v_of l12).1, by rw [(v_of l5).2.2, (v_of l12).2.2]; exact ec, by omega, hc16⟩
    have hA : ∀ K : Nat × Nat, K.1 ≠ 11 → K.1 ≠ 5 → K.1 ≠ 12 → K.1 ≠ 6 → oU [(11, b0, vF Ω (11, b0), uI (vS Ω (11, b0)) 11 (s'.1 0)), (7, b0 + 8, vF Ω (7, b0 + 8), vS Ω (7, b0 + 8)), (0, bk, vF Ω (0, bk), vS Ω (0, bk)), (5, b0 + 34, va_up (vF Ω (5, b0 + 34)) 0 (some bk), q), (12, b4, vF Ω (12, b4), z)] Ω K = Ω K := fun K g1 g2 g3 g4 => oU_ag (fun K => K.1 ≠ 11 ∧ K.1 ≠ 5 ∧ K.1 ≠ 12) (by simp [h7, h0]) K ⟨g1, g2, g3⟩
    exact two_of (tw (L := [(11, b0, vF Ω (11, b0), uI (vS Ω (11, b0)) 11 (s'.1 0)), (7, b0 + 8, vF Ω (7, b0 + 8), vS Ω (7, b0 + 8)), (0, bk, vF Ω (0, bk), vS Ω (0, bk)), (5, b0 + 34, va_up (vF Ω (5, b0 + 34)) 0 (some bk), q), (12, b4, vF Ω (12, b4), z)]) (s' := s') hO hh (oS_of hm rfl) hV.1.1 (by simp) c1 (fun h hh => pX12_number_ok hh _ (a, s') e1) (iv_qc hV hA ((oUc _ _ _ _).trans (if_pos rfl)) (rel_q hV.2.1 e2) e2.1.2.2.2.1 rfl e2.2.2.1.2.2.2.1 e2.2.2.2.2 hcn) (by omega) (by omega)) (by decide) (by decide)
  · obtain ⟨H1, c1, hO1, hz⟩ := pX11_numberG_ok (l := l) rfl hO h11 h7 h0 h5 h12 hq hf5  _ e3
    rw [show (nI (2 ^ B 0)).toNatClampNeg = 2 ^ B 0 from cl2 h16] at hz
    have hcn : cnt b0 (k + 1) (oU [(11, b0, vF Ω (11, b0), uI (vS Ω (11, b0)) 11 (s'.1 0)), (5, b0 + 34, va_up (va_up (vF Ω (5, b0 + 34)) 0 (some bk)) 5 (some H.2.1), q), (12, H.2.1, fZ, z)] Ω) (B 0) := by
      have l5 : oU [(11, b0, vF Ω (11, b0), uI (vS Ω (11, b0)) 11 (s'.1 0)), (5, b0 + 34, va_up (va_up (vF Ω (5, b0 + 34)) 0 (some bk)) 5 (some H.2.1), q), (12, H.2.1, fZ, z)] Ω (5, b0 + 34) = some (va_up (va_up (vF Ω (5, b0 + 34)) 0 (some bk)) 5 (some H.2.1), q) := by simp [oU]
      have l12 : oU [(11, b0, vF Ω (11, b0), uI (vS Ω (11, b0)) 11 (s'.1 0)), (5, b0 + 34, va_up (va_up (vF Ω (5, b0 + 34)) 0 (some bk)) 5 (some H.2.1), q), (12, H.2.1, fZ, z)] Ω (12, H.2.1) = some (fZ, z) := by simp [oU]
      exact ⟨(v_of l5).1, H.2.1, 1, by rw [(v_of l5).2.1]; rfl, (v_of l12).1, by rw [(v_of l5).2.2, (v_of l12).2.2]; exact ec, by omega, h16⟩
    have hp := p2c el
    have hA : ∀ K : Nat × Nat, K.1 ≠ 11 → K.1 ≠ 5 → K.1 ≠ 12 → K.1 ≠ 6 → oU [(11, b0, vF Ω (11, b0), uI (vS Ω (11, b0)) 11 (s'.1 0)), (5, b0 + 34, va_up (va_up (vF Ω (5, b0 + 34)) 0 (some bk)) 5 (some H.2.1), q), (12, H.2.1, fZ, z)] Ω K = Ω K := fun K g1 g2 g3 g4 => oU_ag (fun K => K.1 ≠ 11 ∧ K.1 ≠ 5 ∧ K.1 ≠ 12) (by simp) K ⟨g1, g2, g3⟩
    exact twG (s' := s') hh hV.1.1 (by simp) c1 hO1 hz (by omega) (fun h hh => pX12_number_ok hh _ (a, s') e1) (iv_qc hV hA ((oUc _ _ _ _).trans (if_pos rfl)) (rel_q hV.2.1 e2) e2.1.2.2.2.1 rfl e2.2.2.1.2.2.2.1 e2.2.2.2.2 hcn) (by omega) (by omega) (by decide) (by decide)
theorem m_ahead (hI : INV b0 mo k H) (hk : k ≤ 600) (a0 a1 a2 : Int32) : two l b0 mo k yX11_ahead yX12_ahead cX11_ahead cX12_ahead 5 6 (some .boolean) [.int a0, .int a1, .int a2] H := by
  obtain ⟨Ω, c, hO, hh, hV, hr1, hr2⟩ := hI
  obtain ⟨B, nm, nmI, O, Hh, nO, bk, h13, h11, h8, h7, h0, hq, h26, h30, hB, hw, hR, hnm, hnmI, hH, hHc, hHw, hOw, hOr, hOc, hlog⟩ := iv_now hV
  obtain ⟨i5, b4, st, hf5, i12, hct, hst, hc16⟩ := hV.2.2.1
  have h5 := v_some i5
  have h12 := v_some i12
  have h16 := hw.1
  have hm : oM Ω [(11, b0, vF Ω (11, b0), vS Ω (11, b0)), (7, b0 + 8, vF Ω (7, b0 + 8), vS Ω (7, b0 + 8)), (0, bk, vF Ω (0, bk), vS Ω (0, bk)), (5, b0 + 34, vF Ω (5, b0 + 34), vS Ω (5, b0 + 34)), (12, b4, vF Ω (12, b4), vS Ω (12, b4))] := ⟨h11, h7, h0, h5, h12, trivial⟩
  rcases q_ahead (s0 := vS Ω (11, b0)) (s1 := vS Ω (7, b0 + 8)) (b0 := b0) (b2 := bk) (b4 := b4) (f3 := vF Ω (5, b0 + 34)) hB hw hR hct (by omega) a0 a1 a2 with ⟨s', e1, e2, e3⟩ | ⟨s', q, z, f', x, y, e1, e2, e4, e5, e6, e3, ⟨st', es, ec⟩, ef'⟩ | ⟨s', q, z, x, y, e1, e2, e4, e5, e6, e3, ec, el⟩
  · have c1 := pX11_aheadF_ok (l := l) (h := H) (b0 := b0) (f0 := vF Ω (11, b0)) (f1 := vF Ω (7, b0 + 8)) (f2 := vF Ω (0, bk)) (f3 := vF Ω (5, b0 + 34)) (f4 := vF Ω (12, b4)) (b2 := bk) (b4 := b4) (wO_ok hO hm (by simp)) hq hf5 (vS Ω (11, b0)) (vS Ω (7, b0 + 8)) (vS Ω (0, bk)) (vS Ω (5, b0 + 34)) (vS Ω (12, b4)) a0 a1 a2 _ e3
    rw [wO_lay hO hm] at c1
    exact two_of (tw (L := [(11, b0, vF Ω (11, b0), uI (vS Ω (11, b0)) 11 (s'.1 0)), (7, b0 + 8, vF Ω (7, b0 + 8), vS Ω (7, b0 + 8)), (0, bk, vF Ω (0, bk), vS Ω (0, bk)), (5, b0 + 34, vF Ω (5, b0 + 34), vS Ω (5, b0 + 34)), (12, b4, vF Ω (12, b4), vS Ω (12, b4))]) (s' := s') hO hh (oS_of hm rfl) hV.1.1 (by simp) c1 (fun h hh => pX12_ahead_ok hh _ a0 a1 a2 (false, s') e1) (iv_q hV (by simp [h7, h0, h5, h12]) ((oUc _ _ _ _).trans (if_pos rfl)) e2) (by omega) (by omega)) (by decide) (by decide)
  · have c1 := pX11_aheadF_ok (l := l) (h := H) (b0 := b0) (f0 := vF Ω (11, b0)) (f1 := vF Ω (7, b0 + 8)) (f2 := vF Ω (0, bk)) (f3 := vF Ω (5, b0 + 34)) (f4 := vF Ω (12, b4)) (b2 := bk) (b4 := b4) (wO_ok hO hm (by simp)) hq hf5 (vS Ω (11, b0)) (vS Ω (7, b0 + 8)) (vS Ω (0, bk)) (vS Ω (5, b0 + 34)) (vS Ω (12, b4)) a0 a1 a2 _ e3
    rw [wO_lay hO hm] at c1
    have ef : f' 5 = some b4 := ef'.trans hf5
    have hcn : cnt b0 (k + 1) (oU [(11, b0, vF Ω (11, b0), uI (uL (uL (vS Ω (11, b0)) 12 x) 13 y) 11 0), (7, b0 + 8, vF Ω (7, b0 + 8), vS Ω (7, b0 + 8)), (0, bk, vF Ω (0, bk), vS Ω (0, bk)), (5, b0 + 34, f', q), (12, b4, vF Ω (12, b4), z)] Ω) c := by
      have l5 : oU [(11, b0, vF Ω (11, b0), uI (uL (uL (vS Ω (11, b0)) 12 x) 13 y) 11 0), (7, b0 + 8, vF Ω (7, b0 + 8), vS Ω (7, b0 + 8)), (0, bk, vF Ω (0, bk), vS Ω (0, bk)), (5, b0 + 34, f', q), (12, b4, vF Ω (12, b4), z)] Ω (5, b0 + 34) = some (f', q) := by simp [oU]
      have l12 : oU [(11, b0, vF Ω (11, b0), uI (uL (uL (vS Ω (11, b0)) 12 x) 13 y) 11 0), (7, b0 + 8, vF Ω (7, b0 + 8), vS Ω (7, b0 + 8)), (0, bk, vF Ω (0, bk), vS Ω (0, bk)), (5, b0 + 34, f', q), (12, b4, vF Ω (12, b4), z)] Ω (12, b4) = some (vF Ω (12, b4), z) := by simp [oU]
      exact ⟨(v_of l5).1, b4, st', by rw [(v_of l5).2.1]; exact ef, (v_of l12).1, by rw [(v_of l5).2.2, (v_of l12).2.2]; exact ec, by omega, hc16⟩
    have hA : ∀ K : Nat × Nat, K.1 ≠ 11 → K.1 ≠ 5 → K.1 ≠ 12 → K.1 ≠ 6 → oU [(11, b0, vF Ω (11, b0), uI (uL (uL (vS Ω (11, b0)) 12 x) 13 y) 11 0), (7, b0 + 8, vF Ω (7, b0 + 8), vS Ω (7, b0 + 8)), (0, bk, vF Ω (0, bk), vS Ω (0, bk)), (5, b0 + 34, f', q), (12, b4, vF Ω (12, b4), z)] Ω K = Ω K := fun K g1 g2 g3 g4 => oU_ag (fun K => K.1 ≠ 11 ∧ K.1 ≠ 5 ∧ K.1 ≠ 12) (by simp [h7, h0]) K ⟨g1, g2, g3⟩
    exact two_of (tw (L := [(11, b0, vF Ω (11, b0), uI (uL (uL (vS Ω (11, b0)) 12 x) 13 y) 11 0), (7, b0 + 8, vF Ω (7, b0 + 8), vS Ω (7, b0 + 8)), (0, bk, vF Ω (0, bk), vS Ω (0, bk)), (5, b0 + 34, f', q), (12, b4, vF Ω (12, b4), z)]) (s' := s') hO hh (oS_of hm rfl) hV.1.1 (by simp) c1 (fun h hh => pX12_ahead_ok hh _ a0 a1 a2 (true, s') e1) (iv_qc hV hA ((oUc _ _ _ _).trans (if_pos rfl)) (rel_F hV.2.1 e2 e4 e5 e6) e2.1.2.2.2.1 rfl e2.2.1.2.2.2.1 e2.2.2.2 hcn) (by omega) (by omega)) (by decide) (by decide)
  · obtain ⟨H1, c1, hO1, hz⟩ := pX11_aheadG_ok (l := l) rfl hO h11 h7 h0 h5 h12 hq hf5 a0 a1 a2 _ e3
    rw [show (nI (2 ^ B 0)).toNatClampNeg = 2 ^ B 0 from cl2 h16] at hz
    have hcn : cnt b0 (k + 1) (oU [(11, b0, vF Ω (11, b0), uI (uL (uL (vS Ω (11, b0)) 12 x) 13 y) 11 0), (5, b0 + 34, va_up (va_up (va_up (vF Ω (5, b0 + 34)) 0 (some bk)) 5 (some H.2.1)) 0 (some bk), q), (12, H.2.1, fZ, z)] Ω) (B 0) := by
      have l5 : oU [(11, b0, vF Ω (11, b0), uI (uL (uL (vS Ω (11, b0)) 12 x) 13 y) 11 0), (5, b0 + 34, va_up (va_up (va_up (vF Ω (5, b0 + 34)) 0 (some bk)) 5 (some H.2.1)) 0 (some bk), q), (12, H.2.1, fZ, z)] Ω (5, b0 + 34) = some (va_up (va_up (va_up (vF Ω (5, b0 + 34)) 0 (some bk)) 5 (some H.2.1)) 0 (some bk), q) := by simp [oU]
      have l12 : oU [(11, b0, vF Ω (11, b0), uI (uL (uL (vS Ω (11, b0)) 12 x) 13 y) 11 0), (5, b0 + 34, va_up (va_up (va_up (vF Ω (5, b0 + 34)) 0 (some bk)) 5 (some H.2.1)) 0 (some bk), q), (12, H.2.1, fZ, z)] Ω (12, H.2.1) = some (fZ, z) := by simp [oU]
      exact ⟨(v_of l5).1, H.2.1, 2, by rw [(v_of l5).2.1]; rfl, (v_of l12).1, by rw [(v_of l5).2.2, (v_of l12).2.2]; exact ec, by omega, h16⟩
    have hp := p2c el
    have hA : ∀ K : Nat × Nat, K.1 ≠ 11 → K.1 ≠ 5 → K.1 ≠ 12 → K.1 ≠ 6 → oU [(11, b0, vF Ω (11, b0), uI (uL (uL (vS Ω (11, b0)) 12 x) 13 y) 11 0), (5, b0 + 34, va_up (va_up (va_up (vF Ω (5, b0 + 34)) 0 (some bk)) 5 (some H.2.1)) 0 (some bk), q), (12, H.2.1, fZ, z)] Ω K = Ω K := fun K g1 g2 g3 g4 => oU_ag (fun K => K.1 ≠ 11 ∧ K.1 ≠ 5 ∧ K.1 ≠ 12) (by simp) K ⟨g1, g2, g3⟩
    exact twG (s' := s') hh hV.1.1 (by simp) c1 hO1 hz (by omega) (fun h hh => pX12_ahead_ok hh _ a0 a1 a2 (true, s') e1) (iv_qc hV hA ((oUc _ _ _ _).trans (if_pos rfl)) (rel_F hV.2.1 e2 e4 e5 e6) e2.1.2.2.2.1 rfl e2.2.1.2.2.2.1 e2.2.2.2 hcn) (by omega) (by omega) (by decide) (by decide)
theorem m_ordered (hI : INV b0 mo k H) (hk : k ≤ 600) (a0 : Int32) (a1 : Int64) : two l b0 mo k yX11_ordered yX12_ordered cX11_ordered cX12_ordered 5 11 (some .int) [.int a0, .long a1] H := by
  obtain ⟨Ω, c, hO, hh, hV, hr1, hr2⟩ := hI
  obtain ⟨B, nm, nmI, O, Hh, nO, bk, h13, h11, h8, h7, h0, hq, h26, h30, hB, hw, hR, hnm, hnmI, hH, hHc, hHw, hOw, hOr, hOc, hlog⟩ := iv_now hV
  obtain ⟨i5, b4, st, hf5, i12, hct, hst, hc16⟩ := hV.2.2.1
  have h5 := v_some i5
  have h12 := v_some i12
  have h16 := hw.1
  have hm : oM Ω [(11, b0, vF Ω (11, b0), vS Ω (11, b0)), (7, b0 + 8, vF Ω (7, b0 + 8), vS Ω (7, b0 + 8)), (0, bk, vF Ω (0, bk), vS Ω (0, bk)), (5, b0 + 34, vF Ω (5, b0 + 34), vS Ω (5, b0 + 34)), (12, b4, vF Ω (12, b4), vS Ω (12, b4))] := ⟨h11, h7, h0, h5, h12, trivial⟩
  rcases q_ordered (s0 := vS Ω (11, b0)) (s1 := vS Ω (7, b0 + 8)) (b0 := b0) (b2 := bk) (b4 := b4) (f3 := vF Ω (5, b0 + 34)) hB hw hR hct (by omega) a0 a1 with ⟨a, s', s1', q, z, f', e1, e2, e3, ⟨st', es, ec⟩, ef'⟩ | ⟨a, s', s1', q, z, e1, e2, e3, ec, el⟩
  · have c1 := pX11_orderedF_ok (l := l) (h := H) (b0 := b0) (f0 := vF Ω (11, b0)) (f1 := vF Ω (7, b0 + 8)) (f2 := vF Ω (0, bk)) (f3 := vF Ω (5, b0 + 34)) (f4 := vF Ω (12, b4)) (b2 := bk) (b4 := b4) (wO_ok hO hm (by simp)) hq hf5 (vS Ω (11, b0)) (vS Ω (7, b0 + 8)) (vS Ω (0, bk)) (vS Ω (5, b0 + 34)) (vS Ω (12, b4)) a0 a1 _ e3
    rw [wO_lay hO hm] at c1
    have ef : f' 5 = some b4 := ef'.trans hf5
    have hcn : cnt b0 (k + 1) (oU [(11, b0, vF Ω (11, b0), uI (vS Ω (11, b0)) 11 (s'.1 0)), (7, b0 + 8, vF Ω (7, b0 + 8), s1'), (0, bk, vF Ω (0, bk), vS Ω (0, bk)), (5, b0 + 34, f', q), (12, b4, vF Ω (12, b4), z)] Ω) c := by
      have l5 : oU [(11, b0, vF Ω (11, b0), uI (vS Ω (11, b0)) 11 (s'.1 0)), (7, b0 + 8, vF Ω (7, b0 + 8), s1'), (0, bk, vF Ω (0, bk), vS Ω (0, bk)), (5, b0 + 34, f', q), (12, b4, vF Ω (12, b4), z)] Ω (5, b0 + 34) = some (f', q) := by simp [oU]
      have l12 : oU [(11, b0, vF Ω (11, b0), uI (vS Ω (11, b0)) 11 (s'.1 0)), (7, b0 + 8, vF Ω (7, b0 + 8), s1'), (0, bk, vF Ω (0, bk), vS Ω (0, bk)), (5, b0 + 34, f', q), (12, b4, vF Ω (12, b4), z)] Ω (12, b4) = some (vF Ω (12, b4), z) := by simp [oU]
      exact ⟨(v_of l5).1, b4, st', by rw [(v_of l5).2.1]; exact ef, (v_of l12).1, by rw [(v_of l5).2.2, (v_of l12).2.2]; exact ec, by omega, hc16⟩
    have hA : ∀ K : Nat × Nat, K.1 ≠ 11 → K.1 ≠ 10 → K.1 ≠ 5 → K.1 ≠ 12 → K ≠ (7, b0 + 8) → oU [(11, b0, vF Ω (11, b0), uI (vS Ω (11, b0)) 11 (s'.1 0)), (7, b0 + 8, vF Ω (7, b0 + 8), s1'), (0, bk, vF Ω (0, bk), vS Ω (0, bk)), (5, b0 + 34, f', q), (12, b4, vF Ω (12, b4), z)] Ω K = Ω K := fun K g1 g2 g3 g4 g5 => oU_ag (fun K => K.1 ≠ 11 ∧ K.1 ≠ 5 ∧ K.1 ≠ 12 ∧ K ≠ (7, b0 + 8)) (by simp [h0]) K ⟨g1, g3, g4, g5⟩
    exact two_of (tw (L := [(11, b0, vF Ω (11, b0), uI (vS Ω (11, b0)) 11 (s'.1 0)), (7, b0 + 8, vF Ω (7, b0 + 8), s1'), (0, bk, vF Ω (0, bk), vS Ω (0, bk)), (5, b0 + 34, f', q), (12, b4, vF Ω (12, b4), z)]) (s' := s') hO hh (oS_of hm rfl) hV.1.1 (by simp) c1 (fun h hh => pX12_ordered_ok hh _ a0 a1 (a, s') e1) (iv_ocG hV hA hcn ((oUc _ _ _ _).trans (if_pos rfl)) (by simp [oU]) h0 hq hB hw hR hnm hnmI hH hHc hHw hOw hOr hOc hlog e2) (by omega) (by omega)) (by decide) (by decide)
  · obtain ⟨H1, c1, hO1, hz⟩ := pX11_orderedG_ok (l := l) rfl hO h11 h7 h0 h5 h12 hq hf5 a0 a1 _ e3
    rw [show (nI (2 ^ B 0)).toNatClampNeg = 2 ^ B 0 from cl2 h16] at hz
    have hcn : cnt b0 (k + 1) (oU [(11, b0, vF Ω (11, b0), uI (vS Ω (11, b0)) 11 (s'.1 0)), (7, b0 + 8, vF Ω (7, b0 + 8), s1'), (5, b0 + 34, va_up (va_up (vF Ω (5, b0 + 34)) 0 (some bk)) 5 (some H.2.1), q), (12, H.2.1, fZ, z)] Ω) (B 0) := by
      have l5 : oU [(11, b0, vF Ω (11, b0), uI (vS Ω (11, b0)) 11 (s'.1 0)), (7, b0 + 8, vF Ω (7, b0 + 8), s1'), (5, b0 + 34, va_up (va_up (vF Ω (5, b0 + 34)) 0 (some bk)) 5 (some H.2.1), q), (12, H.2.1, fZ, z)] Ω (5, b0 + 34) = some (va_up (va_up (vF Ω (5, b0 + 34)) 0 (some bk)) 5 (some H.2.1), q) := by simp [oU]
      have l12 : oU [(11, b0, vF Ω (11, b0), uI (vS Ω (11, b0)) 11 (s'.1 0)), (7, b0 + 8, vF Ω (7, b0 + 8), s1'), (5, b0 + 34, va_up (va_up (vF Ω (5, b0 + 34)) 0 (some bk)) 5 (some H.2.1), q), (12, H.2.1, fZ, z)] Ω (12, H.2.1) = some (fZ, z) := by simp [oU]
      exact ⟨(v_of l5).1, H.2.1, 1, by rw [(v_of l5).2.1]; rfl, (v_of l12).1, by rw [(v_of l5).2.2, (v_of l12).2.2]; exact ec, by omega, h16⟩
    have hp := p2c el
    have hA : ∀ K : Nat × Nat, K.1 ≠ 11 → K.1 ≠ 10 → K.1 ≠ 5 → K.1 ≠ 12 → K ≠ (7, b0 + 8) → oU [(11, b0, vF Ω (11, b0), uI (vS Ω (11, b0)) 11 (s'.1 0)), (7, b0 + 8, vF Ω (7, b0 + 8), s1'), (5, b0 + 34, va_up (va_up (vF Ω (5, b0 + 34)) 0 (some bk)) 5 (some H.2.1), q), (12, H.2.1, fZ, z)] Ω K = Ω K := fun K g1 g2 g3 g4 g5 => oU_ag (fun K => K.1 ≠ 11 ∧ K.1 ≠ 5 ∧ K.1 ≠ 12 ∧ K ≠ (7, b0 + 8)) (by simp) K ⟨g1, g3, g4, g5⟩
    exact twG (s' := s') hh hV.1.1 (by simp) c1 hO1 hz (by omega) (fun h hh => pX12_ordered_ok hh _ a0 a1 (a, s') e1) (iv_ocG hV hA hcn ((oUc _ _ _ _).trans (if_pos rfl)) (by simp [oU]) h0 hq hB hw hR hnm hnmI hH hHc hHw hOw hOr hOc hlog e2) (by omega) (by omega) (by decide) (by decide)
end P
