/-! THE LAW: book, log -/
section P
variable {l : Launch} {b0 mo k c : Nat} {H : aH} {Ω : oT}
theorem lk_z (B : Nat → Nat) : lk B 0 = 0 := by
  apply Nat.eq_of_testBit_eq
  intro i
  unfold lk ned
  rw [bdf_tb, orN_tb, Nat.zero_testBit]
  have : anN (fun k => (if (0 : Nat).testBit k = true then B (98 + k) else 0).testBit i) (B 0) = false := by
    rw [anN_f]
    intro k _
    rw [Nat.zero_testBit, if_neg Bool.false_ne_true, Nat.zero_testBit]
  rw [this]; rfl
theorem rel_tx {s s' s0 s8 q' : RS} {sT : Nat → RS} (h : rel s s0 s8 sT) (ht : txE (s8.2.2.2 1) s s' q') : rel s' (uI s0 11 (s'.1 0)) q' sT := by
  obtain ⟨⟨a1, a2, a3⟩, ⟨a4, a5⟩, ⟨⟨n, a6⟩, a7, a8, a9⟩, a10⟩ := h
  obtain ⟨⟨t1, t2, t3, t4, t5⟩, ⟨t6, t7⟩, ⟨t8, t9⟩, t10, t11⟩ := ht
  refine ⟨⟨rfl, t8.trans a2, t9.trans a3⟩, ⟨t7.trans a4, fun q i hi => by rw [t10 14 (by decide)]; exact a5 (by rw [← t7]; exact q) i hi⟩, ⟨⟨0, t1, t2, by omega, fun i hi => absurd hi (Nat.not_lt_zero _), fun i hi => absurd hi (Nat.not_lt_zero _)⟩, t3, t4, by rw [t5]; exact a9⟩, fun i hi => trR_cg (t10 0 (by decide)) (t10 1 (by decide)) (t11 2 (by decide)) (a10 i hi)⟩
theorem m_book (hI : INV b0 mo k H) (a0 : Int32) : two l b0 mo k yX11_book yX12_book cX11_book cX12_book 3 3 (some .int) [.int a0] H := by
  obtain ⟨Ω, c, hO, hh, hV, hr1, hr2⟩ := hI
  obtain ⟨B, nm, nmI, O, Hh, nO, bk, h13, h11, h8, h7, h0, hq, h26, h30, hB, hw, hR, hnm, hnmI, hH, hHc, hHw, hOw, hOr, hOc, hlog⟩ := iv_now hV
  obtain ⟨n, tp⟩ := hV.2.1.2.2.1.1
  have tk := hV.2.1.2.2.1.2.2.2
  have hnow := hV.2.2.2.2
  rcases q_book (s0 := vS Ω (11, b0)) (s2 := vS Ω (7, b0 + 8)) tp rfl tk b0 H.2.1 (vF Ω (7, b0 + 8)) a0 with ⟨s', e1, e2, e3⟩ | ⟨s', q', x5, e1, e3, et, ew, ec⟩ | ⟨B', nm', nmI', s', q', s2', r', e1, e3, et, w1, w2, w3, w4, w5, w6, w7, w8, w9, w10, w11⟩
  · have hm : oM Ω [(11, b0, vF Ω (11, b0), vS Ω (11, b0)), (8, b0 + 2, vF Ω (8, b0 + 2), vS Ω (8, b0 + 2))] := ⟨h11, h8, trivial⟩
    have c1 := pX11_bookE_ok (l := l) (h := H) (b0 := b0) (f0 := vF Ω (11, b0)) (f1 := vF Ω (8, b0 + 2)) (wO_ok hO hm (by simp)) (vS Ω (11, b0)) (vS Ω (8, b0 + 2)) a0 _ e3
    rw [wO_lay hO hm] at c1
    exact two_of (tw (L := [(11, b0, vF Ω (11, b0), uI (vS Ω (11, b0)) 11 (s'.1 0)), (8, b0 + 2, vF Ω (8, b0 + 2), vS Ω (8, b0 + 2))]) (s' := s') hO hh (oS_of hm rfl) hV.1.1 (by simp) c1 (fun h hh => pX12_book_ok hh _ a0 (m1I, s') e1) (iv_q hV (by simp [h8]) ((oUc _ _ _ _).trans (if_pos rfl)) e2) (by omega) (by omega)) (by decide) (by decide)
  · obtain ⟨H1, c1, hO1, hz⟩ := pX11_bookT_ok (l := l) rfl hO h11 h8 h7 a0 _ e3
    have A : ∀ K : Nat × Nat, K.1 ≠ 11 → K.1 ≠ 8 → K.1 ≠ 1 → vI Ω K → oU [(11, b0, vF Ω (11, b0), uI (vS Ω (11, b0)) 11 (s'.1 0)), (8, b0 + 2, vF Ω (8, b0 + 2), q'), (7, b0 + 8, vF Ω (7, b0 + 8), vS Ω (7, b0 + 8)), (0, H.2.1 + 1, fZ, x5), (1, H.2.1, fR (some (b0 + 2)) (some (H.2.1 + 1)) none, z0)] Ω K = Ω K := fun K g1 g2 g3 hv => oU_agV (fun K => K.1 ≠ 11 ∧ K.1 ≠ 8 ∧ K.1 ≠ 1) (by simp [h7]; intro hx; have : H.2.1 + 1 < H.2.1 := fresh hO hx rfl; omega) K ⟨g1, g2, g3⟩ hv
    have l11 : oU [(11, b0, vF Ω (11, b0), uI (vS Ω (11, b0)) 11 (s'.1 0)), (8, b0 + 2, vF Ω (8, b0 + 2), q'), (7, b0 + 8, vF Ω (7, b0 + 8), vS Ω (7, b0 + 8)), (0, H.2.1 + 1, fZ, x5), (1, H.2.1, fR (some (b0 + 2)) (some (H.2.1 + 1)) none, z0)] Ω (11, b0) = some (vF Ω (11, b0), uI (vS Ω (11, b0)) 11 (s'.1 0)) := (oUc _ _ _ _).trans (if_pos rfl)
    have l8 : oU [(11, b0, vF Ω (11, b0), uI (vS Ω (11, b0)) 11 (s'.1 0)), (8, b0 + 2, vF Ω (8, b0 + 2), q'), (7, b0 + 8, vF Ω (7, b0 + 8), vS Ω (7, b0 + 8)), (0, H.2.1 + 1, fZ, x5), (1, H.2.1, fR (some (b0 + 2)) (some (H.2.1 + 1)) none, z0)] Ω (8, b0 + 2) = some (vF Ω (8, b0 + 2), q') := by simp [oU]
    generalize hL : [(11, b0, vF Ω (11, b0), uI (vS Ω (11, b0)) 11 (s'.1 0)), (8, b0 + 2, vF Ω (8, b0 + 2), q'), (7, b0 + 8, vF Ω (7, b0 + 8), vS Ω (7, b0 + 8)), (0, H.2.1 + 1, fZ, x5), (1, H.2.1, fR (some (b0 + 2)) (some (H.2.1 + 1)) none, z0)] = L at *
    have hO1' : wO H1 (oU L Ω) (H.2.1 + 15) := hO1
    have hn13 : ∀ r ∈ L, r.1 ≠ 13 := by rw [← hL]; simp
    refine twG (s' := s') hh hV.1.1 hn13 c1 hO1' hz (by omega) (fun h hh => pX12_book_ok hh _ a0 (m1I, s') e1) (iv_G hV (fun K hK hv => A K (by omega) (by omega) (by omega) hv) ?_ et.2.1.1 ?_ (fun x _ hx => ec x hx) (fun x _ hx => ew x hx) (cnt_eq hV.2.2.1 (fun K hK hv => A K (by omega) (by omega) (by omega) hv)) ?_) (by omega) (by omega) (by decide) (by decide)
    · rw [(v_of l11).2.2, (v_of l8).2.2]
      obtain ⟨r1, r2, r3, r4⟩ := rel_tx hV.2.1 et
      refine ⟨r1, r2, r3, fun i hi => ?_⟩
      show trR s' i (vS (oU L Ω) (9, b0 + 79 + 2 * i))
      rw [(v_eq (A (9, b0 + 79 + 2 * i) (by show 9 ≠ 11; decide) (by show 9 ≠ 8; decide) (by show 9 ≠ 1; decide) (hV.1.2.2.2.2.2.2 i hi))).2.2]; exact r4 i hi
    · rw [(v_of l11).2.2]; rfl
    · exact stO_cg (fun j hj => ec j (by omega)) (fun j hj => ew j (by omega)) (stO_V (fun K hK hv => A K (by omega) (by omega) (by omega) hv) hnow)
  · obtain ⟨H1, c1, hO1, hz⟩ := pX11_bookT_ok (l := l) rfl hO h11 h8 h7 a0 _ e3
    have A : ∀ K : Nat × Nat, K.1 ≠ 11 → K.1 ≠ 8 → K.1 ≠ 1 → K ≠ (7, b0 + 8) → vI Ω K → oU [(11, b0, vF Ω (11, b0), uI (vS Ω (11, b0)) 11 (s'.1 0)), (8, b0 + 2, vF Ω (8, b0 + 2), q'), (7, b0 + 8, va_up (va_up (vF Ω (7, b0 + 8)) 0 (some (H.2.1 + 1))) 1 none, s2'), (0, H.2.1 + 1, fZ, r'), (1, H.2.1, fR (some (b0 + 2)) (some (H.2.1 + 1)) none, z0)] Ω K = Ω K := fun K g1 g2 g3 g4 hv => oU_agV (fun K => K.1 ≠ 11 ∧ K.1 ≠ 8 ∧ K.1 ≠ 1 ∧ K ≠ (7, b0 + 8)) (by simp; intro hx; have : H.2.1 + 1 < H.2.1 := fresh hO hx rfl; omega) K ⟨g1, g2, g3, g4⟩ hv
    have l11 : oU [(11, b0, vF Ω (11, b0), uI (vS Ω (11, b0)) 11 (s'.1 0)), (8, b0 + 2, vF Ω (8, b0 + 2), q'), (7, b0 + 8, va_up (va_up (vF Ω (7, b0 + 8)) 0 (some (H.2.1 + 1))) 1 none, s2'), (0, H.2.1 + 1, fZ, r'), (1, H.2.1, fR (some (b0 + 2)) (some (H.2.1 + 1)) none, z0)] Ω (11, b0) = some (vF Ω (11, b0), uI (vS Ω (11, b0)) 11 (s'.1 0)) := (oUc _ _ _ _).trans (if_pos rfl)
    have l8 : oU [(11, b0, vF Ω (11, b0), uI (vS Ω (11, b0)) 11 (s'.1 0)), (8, b0 + 2, vF Ω (8, b0 + 2), q'), (7, b0 + 8, va_up (va_up (vF Ω (7, b0 + 8)) 0 (some (H.2.1 + 1))) 1 none, s2'), (0, H.2.1 + 1, fZ, r'), (1, H.2.1, fR (some (b0 + 2)) (some (H.2.1 + 1)) none, z0)] Ω (8, b0 + 2) = some (vF Ω (8, b0 + 2), q') := by simp [oU]
    have l7 : oU [(11, b0, vF Ω (11, b0), uI (vS Ω (11, b0)) 11 (s'.1 0)), (8, b0 + 2, vF Ω (8, b0 + 2), q'), (7, b0 + 8, va_up (va_up (vF Ω (7, b0 + 8)) 0 (some (H.2.1 + 1))) 1 none, s2'), (0, H.2.1 + 1, fZ, r'), (1, H.2.1, fR (some (b0 + 2)) (some (H.2.1 + 1)) none, z0)] Ω (7, b0 + 8) = some (va_up (va_up (vF Ω (7, b0 + 8)) 0 (some (H.2.1 + 1))) 1 none, s2') := by simp [oU]
    have l0 : oU [(11, b0, vF Ω (11, b0), uI (vS Ω (11, b0)) 11 (s'.1 0)), (8, b0 + 2, vF Ω (8, b0 + 2), q'), (7, b0 + 8, va_up (va_up (vF Ω (7, b0 + 8)) 0 (some (H.2.1 + 1))) 1 none, s2'), (0, H.2.1 + 1, fZ, r'), (1, H.2.1, fR (some (b0 + 2)) (some (H.2.1 + 1)) none, z0)] Ω (0, H.2.1 + 1) = some (fZ, r') := by simp [oU]
    generalize hL : [(11, b0, vF Ω (11, b0), uI (vS Ω (11, b0)) 11 (s'.1 0)), (8, b0 + 2, vF Ω (8, b0 + 2), q'), (7, b0 + 8, va_up (va_up (vF Ω (7, b0 + 8)) 0 (some (H.2.1 + 1))) 1 none, s2'), (0, H.2.1 + 1, fZ, r'), (1, H.2.1, fR (some (b0 + 2)) (some (H.2.1 + 1)) none, z0)] = L at *
    have hO1' : wO H1 (oU L Ω) (H.2.1 + 15) := hO1
    have hn13 : ∀ r ∈ L, r.1 ≠ 13 := by rw [← hL]; simp
    have n7 : ∀ K : Nat × Nat, K.1 ≠ 7 → K ≠ (7, b0 + 8) := fun K h e => h (by rw [e])
    have n7' : ∀ K : Nat × Nat, (K.1 = 0 ∨ K.1 = 3 ∨ (K.1 = 7 ∧ K.2 ≠ b0 + 8)) → K ≠ (7, b0 + 8) := fun K h e => by
      rw [e] at h
      dsimp only at h
      omega
    refine twG (s' := s') hh hV.1.1 hn13 c1 hO1' hz (by omega) (fun h hh => pX12_book_ok hh _ a0 (nI (B' 0), s') e1) (iv_G hV (fun K hK hv => A K (by omega) (by omega) (by omega) (n7' K hK) hv) ?_ et.2.1.1 ?_ w10 w11 (cnt_eq hV.2.2.1 (fun K hK hv => A K (by omega) (by omega) (by omega) (n7 K (by omega)) hv)) ?_) (by omega) (by omega) (by decide) (by decide)
    · rw [(v_of l11).2.2, (v_of l8).2.2]
      obtain ⟨r1, r2, r3, r4⟩ := rel_tx hV.2.1 et
      refine ⟨r1, r2, r3, fun i hi => ?_⟩
      show trR s' i (vS (oU L Ω) (9, b0 + 79 + 2 * i))
      rw [(v_eq (A (9, b0 + 79 + 2 * i) (by show 9 ≠ 11; decide) (by show 9 ≠ 8; decide) (by show 9 ≠ 1; decide) (n7 _ (by show 9 ≠ 7; decide)) (hV.1.2.2.2.2.2.2 i hi))).2.2]; exact r4 i hi
    · rw [(v_of l11).2.2]; rfl
    · exact mk_now l7 rfl l0 (Or.inl ⟨rfl, B', nm', nmI', fun _ => 0, fun _ => 0, 0, w2, w1, w3, w4, w5, fun i hi => (w6 i hi).1, fun i hi => (w6 i hi).2, fun i hi => ⟨Nat.two_pow_pos _, lk_z B'⟩, ⟨by omega, fun i hi => absurd hi (Nat.not_lt_zero _)⟩, ⟨w7, fun i hi => absurd hi (Nat.not_lt_zero _)⟩, ⟨w8, fun i hi => absurd hi (Nat.not_lt_zero _)⟩, w9⟩)
theorem m_log (hI : INV b0 mo k H) (a0 : Int32) : two l b0 mo k yX11_log yX12_log cX11_log cX12_log 3 3 (some .int) [.int a0] H := by
  obtain ⟨Ω, c, hO, hh, hV, hr1, hr2⟩ := hI
  obtain ⟨B, nm, nmI, O, Hh, nO, bk, h13, h11, h8, h7, h0, hq, h26, h30, hB, hw, hR, hnm, hnmI, hH, hHc, hHw, hOw, hOr, hOc, hlog⟩ := iv_now hV
  obtain ⟨n, tp⟩ := hV.2.1.2.2.1.1
  have tk := hV.2.1.2.2.1.2.2.2
  have hnow := hV.2.2.2.2
  rcases q_log (s0 := vS Ω (11, b0)) (s1 := vS Ω (7, b0 + 8)) tp rfl tk hB hw hR.2.1 hR.1 hnm hnmI b0 bk H.2.1 (vF Ω (7, b0 + 8)) a0 with ⟨s', e1, e2, e3⟩ | ⟨s', q', x4, x5, e1, e3, et, ew, ec⟩ | ⟨kk, R, s', q', x4, lg', e1, e3, et, ew, el, e135, ec⟩
  · have hm : oM Ω [(11, b0, vF Ω (11, b0), vS Ω (11, b0)), (8, b0 + 2, vF Ω (8, b0 + 2), vS Ω (8, b0 + 2))] := ⟨h11, h8, trivial⟩
    have c1 := pX11_logE_ok (l := l) (h := H) (b0 := b0) (f0 := vF Ω (11, b0)) (f1 := vF Ω (8, b0 + 2)) (wO_ok hO hm (by simp)) (vS Ω (11, b0)) (vS Ω (8, b0 + 2)) a0 _ e3
    rw [wO_lay hO hm] at c1
    exact two_of (tw (L := [(11, b0, vF Ω (11, b0), uI (vS Ω (11, b0)) 11 (s'.1 0)), (8, b0 + 2, vF Ω (8, b0 + 2), vS Ω (8, b0 + 2))]) (s' := s') hO hh (oS_of hm rfl) hV.1.1 (by simp) c1 (fun h hh => pX12_log_ok hh _ a0 (m1I, s') e1) (iv_q hV (by simp [h8]) ((oUc _ _ _ _).trans (if_pos rfl)) e2) (by omega) (by omega)) (by decide) (by decide)
  · obtain ⟨H1, c1, hO1, hz⟩ := pX11_logT_ok (l := l) rfl hO h11 h7 h0 h8 hq a0 _ e3
    have A : ∀ K : Nat × Nat, K.1 ≠ 11 → K.1 ≠ 8 → K.1 ≠ 4 → vI Ω K → oU [(11, b0, vF Ω (11, b0), uI (vS Ω (11, b0)) 11 (s'.1 0)), (7, b0 + 8, vF Ω (7, b0 + 8), vS Ω (7, b0 + 8)), (8, b0 + 2, vF Ω (8, b0 + 2), q'), (4, H.2.1, fR (some (b0 + 2)) (some bk) (some (H.2.1 + 1)), x4), (3, H.2.1 + 1, fZ, x5)] Ω K = Ω K := fun K g1 g2 g3 hv => oU_agV (fun K => K.1 ≠ 11 ∧ K.1 ≠ 8 ∧ K.1 ≠ 4) (by simp [h7]; intro hx; have : H.2.1 + 1 < H.2.1 := fresh hO hx rfl; omega) K ⟨g1, g2, g3⟩ hv
    have l11 : oU [(11, b0, vF Ω (11, b0), uI (vS Ω (11, b0)) 11 (s'.1 0)), (7, b0 + 8, vF Ω (7, b0 + 8), vS Ω (7, b0 + 8)), (8, b0 + 2, vF Ω (8, b0 + 2), q'), (4, H.2.1, fR (some (b0 + 2)) (some bk) (some (H.2.1 + 1)), x4), (3, H.2.1 + 1, fZ, x5)] Ω (11, b0) = some (vF Ω (11, b0), uI (vS Ω (11, b0)) 11 (s'.1 0)) := (oUc _ _ _ _).trans (if_pos rfl)
    have l8 : oU [(11, b0, vF Ω (11, b0), uI (vS Ω (11, b0)) 11 (s'.1 0)), (7, b0 + 8, vF Ω (7, b0 + 8), vS Ω (7, b0 + 8)), (8, b0 + 2, vF Ω (8, b0 + 2), q'), (4, H.2.1, fR (some (b0 + 2)) (some bk) (some (H.2.1 + 1)), x4), (3, H.2.1 + 1, fZ, x5)] Ω (8, b0 + 2) = some (vF Ω (8, b0 + 2), q') := by simp [oU]
    generalize hL : [(11, b0, vF Ω (11, b0), uI (vS Ω (11, b0)) 11 (s'.1 0)), (7, b0 + 8, vF Ω (7, b0 + 8), vS Ω (7, b0 + 8)), (8, b0 + 2, vF Ω (8, b0 + 2), q'), (4, H.2.1, fR (some (b0 + 2)) (some bk) (some (H.2.1 + 1)), x4), (3, H.2.1 + 1, fZ, x5)] = L at *
    have hO1' : wO H1 (oU L Ω) (H.2.1 + 9) := hO1
    have hn13 : ∀ r ∈ L, r.1 ≠ 13 := by rw [← hL]; simp
    refine twG (s' := s') hh hV.1.1 hn13 c1 hO1' hz (by omega) (fun h hh => pX12_log_ok hh _ a0 (m1I, s') e1) (iv_G hV (fun K hK hv => A K (by omega) (by omega) (by omega) hv) ?_ et.2.1.1 ?_ (fun x _ hx => ec x hx) (fun x _ hx => by rw [ew]) (cnt_eq hV.2.2.1 (fun K hK hv => A K (by omega) (by omega) (by omega) hv)) ?_) (by omega) (by omega) (by decide) (by decide)
    · rw [(v_of l11).2.2, (v_of l8).2.2]
      obtain ⟨r1, r2, r3, r4⟩ := rel_tx hV.2.1 et
      refine ⟨r1, r2, r3, fun i hi => ?_⟩
      show trR s' i (vS (oU L Ω) (9, b0 + 79 + 2 * i))
      rw [(v_eq (A (9, b0 + 79 + 2 * i) (by show 9 ≠ 11; decide) (by show 9 ≠ 8; decide) (by show 9 ≠ 4; decide) (hV.1.2.2.2.2.2.2 i hi))).2.2]; exact r4 i hi
    · rw [(v_of l11).2.2]; rfl
    · exact stO_cg (fun j hj => ec j (by omega)) (fun j hj => by rw [ew]) (stO_V (fun K hK hv => A K (by omega) (by omega) (by omega) hv) hnow)
  · obtain ⟨H1, c1, hO1, hz⟩ := pX11_logT_ok (l := l) rfl hO h11 h7 h0 h8 hq a0 _ e3
    have A : ∀ K : Nat × Nat, K.1 ≠ 11 → K.1 ≠ 8 → K.1 ≠ 4 → K ≠ (7, b0 + 8) → vI Ω K → oU [(11, b0, vF Ω (11, b0), uI (vS Ω (11, b0)) 11 (s'.1 0)), (7, b0 + 8, va_up (vF Ω (7, b0 + 8)) 1 (some (H.2.1 + 1)), vS Ω (7, b0 + 8)), (8, b0 + 2, vF Ω (8, b0 + 2), q'), (4, H.2.1, fR (some (b0 + 2)) (some bk) (some (H.2.1 + 1)), x4), (3, H.2.1 + 1, fZ, lg')] Ω K = Ω K := fun K g1 g2 g3 g4 hv => oU_agV (fun K => K.1 ≠ 11 ∧ K.1 ≠ 8 ∧ K.1 ≠ 4 ∧ K ≠ (7, b0 + 8)) (by simp; intro hx; have : H.2.1 + 1 < H.2.1 := fresh hO hx rfl; omega) K ⟨g1, g2, g3, g4⟩ hv
    have l11 : oU [(11, b0, vF Ω (11, b0), uI (vS Ω (11, b0)) 11 (s'.1 0)), (7, b0 + 8, va_up (vF Ω (7, b0 + 8)) 1 (some (H.2.1 + 1)), vS Ω (7, b0 + 8)), (8, b0 + 2, vF Ω (8, b0 + 2), q'), (4, H.2.1, fR (some (b0 + 2)) (some bk) (some (H.2.1 + 1)), x4), (3, H.2.1 + 1, fZ, lg')] Ω (11, b0) = some (vF Ω (11, b0), uI (vS Ω (11, b0)) 11 (s'.1 0)) := (oUc _ _ _ _).trans (if_pos rfl)
    have l8 : oU [(11, b0, vF Ω (11, b0), uI (vS Ω (11, b0)) 11 (s'.1 0)), (7, b0 + 8, va_up (vF Ω (7, b0 + 8)) 1 (some (H.2.1 + 1)), vS Ω (7, b0 + 8)), (8, b0 + 2, vF Ω (8, b0 + 2), q'), (4, H.2.1, fR (some (b0 + 2)) (some bk) (some (H.2.1 + 1)), x4), (3, H.2.1 + 1, fZ, lg')] Ω (8, b0 + 2) = some (vF Ω (8, b0 + 2), q') := by simp [oU]
    have l7 : oU [(11, b0, vF Ω (11, b0), uI (vS Ω (11, b0)) 11 (s'.1 0)), (7, b0 + 8, va_up (vF Ω (7, b0 + 8)) 1 (some (H.2.1 + 1)), vS Ω (7, b0 + 8)), (8, b0 + 2, vF Ω (8, b0 + 2), q'), (4, H.2.1, fR (some (b0 + 2)) (some bk) (some (H.2.1 + 1)), x4), (3, H.2.1 + 1, fZ, lg')] Ω (7, b0 + 8) = some (va_up (vF Ω (7, b0 + 8)) 1 (some (H.2.1 + 1)), vS Ω (7, b0 + 8)) := by simp [oU]
    have l3 : oU [(11, b0, vF Ω (11, b0), uI (vS Ω (11, b0)) 11 (s'.1 0)), (7, b0 + 8, va_up (vF Ω (7, b0 + 8)) 1 (some (H.2.1 + 1)), vS Ω (7, b0 + 8)), (8, b0 + 2, vF Ω (8, b0 + 2), q'), (4, H.2.1, fR (some (b0 + 2)) (some bk) (some (H.2.1 + 1)), x4), (3, H.2.1 + 1, fZ, lg')] Ω (3, H.2.1 + 1) = some (fZ, lg') := by simp [oU]
    generalize hL : [(11, b0, vF Ω (11, b0), uI (vS Ω (11, b0)) 11 (s'.1 0)), (7, b0 + 8, va_up (vF Ω (7, b0 + 8)) 1 (some (H.2.1 + 1)), vS Ω (7, b0 + 8)), (8, b0 + 2, vF Ω (8, b0 + 2), q'), (4, H.2.1, fR (some (b0 + 2)) (some bk) (some (H.2.1 + 1)), x4), (3, H.2.1 + 1, fZ, lg')] = L at *
    have hO1' : wO H1 (oU L Ω) (H.2.1 + 9) := hO1
    have hn13 : ∀ r ∈ L, r.1 ≠ 13 := by rw [← hL]; simp
    have n7 : ∀ K : Nat × Nat, K.1 ≠ 7 → K ≠ (7, b0 + 8) := fun K h e => h (by rw [e])
    have n7' : ∀ K : Nat × Nat, (K.1 = 0 ∨ K.1 = 3 ∨ (K.1 = 7 ∧ K.2 ≠ b0 + 8)) → K ≠ (7, b0 + 8) := fun K h e => by
      rw [e] at h
      dsimp only at h
      omega
    have h16 := hw.1
    have i4 := hw.2.1
    have hn16 := hOw.1
    refine twG (s' := s') hh hV.1.1 hn13 c1 hO1' hz (by omega) (fun h hh => pX12_log_ok hh _ a0 (nI kk, s') e1) (iv_G hV (fun K hK hv => A K (by omega) (by omega) (by omega) (n7' K hK) hv) ?_ et.2.1.1 ?_ (fun x h1 h2 => ec x (by omega) h2) (fun x _ _ => by rw [ew]) (cnt_eq hV.2.2.1 (fun K hK hv => A K (by omega) (by omega) (by omega) (n7 K (by omega)) hv)) ?_) (by omega) (by omega) (by decide) (by decide)
    · rw [(v_of l11).2.2, (v_of l8).2.2]
      obtain ⟨r1, r2, r3, r4⟩ := rel_tx hV.2.1 et
      refine ⟨r1, r2, r3, fun i hi => ?_⟩
      show trR s' i (vS (oU L Ω) (9, b0 + 79 + 2 * i))
      rw [(v_eq (A (9, b0 + 79 + 2 * i) (by show 9 ≠ 11; decide) (by show 9 ≠ 8; decide) (by show 9 ≠ 4; decide) (n7 _ (by show 9 ≠ 7; decide)) (hV.1.2.2.2.2.2.2 i hi))).2.2]; exact r4 i hi
    · rw [(v_of l11).2.2]; rfl
    · refine mk_now l7 hq ((A (0, bk) (by show 0 ≠ 11; decide) (by show 0 ≠ 8; decide) (by show 0 ≠ 4; decide) (n7 _ (by show 0 ≠ 7; decide)) (v_of h0).1).trans h0) (Or.inr ⟨H.2.1 + 1, fZ, lg', rfl, l3, B, nm, nmI, O, Hh, nO, ⟨fun j hj => by rw [ec _ (by omega) (by omega)]; exact hB.1 j hj, hB.2⟩, hw, hR, by rw [ew]; exact hnm, by rw [ew]; exact hnmI, fun i hi => by rw [ec _ (by omega) (by omega)]; exact hH i hi, hHc, hHw, hOw, ⟨by rw [ec _ (by omega) (by omega)]; exact hOr.1, fun x hx => by rw [ec _ (by omega) (by omega)]; exact hOr.2 x hx⟩, hOc, e135, R, kk, el⟩)
end P
