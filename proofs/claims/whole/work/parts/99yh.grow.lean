/-! THE LAW: calls that make something new -/
section P
variable {l : Launch} {b0 mo k c : Nat} {H : aH} {Ω : oT}
theorem oU_agV {Ω : oT} (P : Nat × Nat → Prop) : ∀ {L : List XR}, (∀ r ∈ L, P (xk r) → vI Ω (xk r) → Ω (xk r) = some r.2.2) → ∀ K, P K → vI Ω K → oU L Ω K = Ω K
  | [], _, _, _, _ => rfl
  | r :: L, h, K, hK, hv => by
    show (if K = xk r then some r.2.2 else oU L Ω K) = Ω K
    by_cases e : K = xk r
    · rw [if_pos e, e]; exact (h r List.mem_cons_self (e ▸ hK) (e ▸ hv)).symm
    · rw [if_neg e]; exact oU_agV P (fun q hq => h q (List.mem_cons_of_mem _ hq)) K hK hv
theorem fresh {n cl b : Nat} (hO : wO H Ω n) (h : vI Ω (cl, b)) (hx : xD cl 0 = true) : b < n := hO.1.2 (cl, b) h 0 hx
theorem twG {y y' : MethodName} {cc cc' : ByteArray} {nL nL' d d' N1 S1 : Nat} {ret : Option FieldType} {As : List Value} {rr : Option Value} {s' : RS} {L : List XR} {H1 : aH} (hh : mo + 18 ≤ H.2.1) (h13 : vI Ω (13, mo)) (hn : ∀ r ∈ L, r.1 ≠ 13) (c1 : aMet l d y cc nL ret (.ref b0 :: As) H rr H1) (hO1 : wO H1 (oU L Ω) N1) (hz : H1.2 = (N1, S1)) (hN : H.2.1 ≤ N1) (c2 : ∀ h : aH, mo + 18 ≤ h.2.1 → aMet l d' y' cc' nL' ret (.ref mo :: As) (rH mo h (vS Ω (13, mo))) rr (rH mo h s')) {c' : Nat} (hIV : IV b0 mo (k + 1) c' (oU [(13, mo, fZ, s')] (oU L Ω))) (hr1 : N1 ≤ 1000 + 15 * (k + 1)) (hr2 : S1 ≤ 100000 + 400 * (k + 1) + 2 * 2 ^ c') (hd : d ≤ 300) (hd' : d' ≤ 300) (hrr : okR ret rr := by exact ⟨_, rfl⟩) : two l b0 mo k y y' cc cc' nL nL' ret As H := by
  have h131 : vI (oU L Ω) (13, mo) := oU_I h13
  have es : vS (oU L Ω) (13, mo) = vS Ω (13, mo) := (v_eq (oU_ag (fun K => K.1 = 13) (fun r hr h => absurd h (hn r hr)) (13, mo) rfl)).2.2
  have z1 : H1.2.1 = N1 := by rw [hz]
  have z2 : H1.2.2 = S1 := by rw [hz]
  have q2 := c2 H1 (by omega)
  have el := rH_lay hO1 h131
  rw [es] at el
  rw [el, rH_oH (f := fZ)] at q2
  refine ⟨d, d', rr, H1, oH (13, mo, fZ, s') H1, hd, hd', c1, q2, ⟨oU [(13, mo, fZ, s')] (oU L Ω), c', ?_, ?_, hIV, ?_, ?_⟩, rcv_of hO1 h131 (by omega), hrr⟩
  · have := wO_1 (r := (13, mo, fZ, s')) hO1 h131
    show wO (oH (13, mo, fZ, s') H1) _ H1.2.1
    rw [z1]; exact this
  · show mo + 18 ≤ H1.2.1
    omega
  · show H1.2.1 ≤ _
    omega
  · show H1.2.2 ≤ _
    omega
theorem iv_G {c' : Nat} {s' : RS} {L : List XR} (hI : IV b0 mo k c Ω) (hA : ∀ K : Nat × Nat, (K.1 = 0 ∨ K.1 = 3 ∨ (K.1 = 7 ∧ K.2 ≠ b0 + 8)) → vI Ω K → oU L Ω K = Ω K) (hrel : rel s' (vS (oU L Ω) (11, b0)) (vS (oU L Ω) (8, b0 + 2)) (fun i => vS (oU L Ω) (9, b0 + 79 + 2 * i))) (h22 : s'.1 22 = (vS Ω (13, mo)).1 22) (h10 : (vS (oU L Ω) (11, b0)).1 10 = (vS Ω (11, b0)).1 10) (hc : ∀ x, 360 ≤ x → x < 1440 → s'.2.2.1 4 x = (vS Ω (13, mo)).2.2.1 4 x) (hw : ∀ x, 20 ≤ x → x < 80 → s'.2.2.2 5 x = (vS Ω (13, mo)).2.2.2 5 x) (hcnt : cnt b0 (k + 1) (oU L Ω) c') (hnow : stO (oU L Ω) (b0 + 8) (s'.2.2.1 4) (s'.2.2.2 5)) : IV b0 mo (k + 1) c' (oU [(13, mo, fZ, s')] (oU L Ω)) := by
  obtain ⟨p, hr, hct, hm, hn⟩ := hI
  have B : ∀ K, vI Ω K → vI (oU [(13, mo, fZ, s')] (oU L Ω)) K := fun K h => oU_I (oU_I h)
  have e13 : vS (oU [(13, mo, fZ, s')] (oU L Ω)) (13, mo) = s' := (v_of (f := fZ) ((oU1 _ _ _).trans (if_pos rfl))).2.2
  have E : ∀ K : Nat × Nat, K.1 ≠ 13 → oU [(13, mo, fZ, s')] (oU L Ω) K = oU L Ω K := fun K h => by
    rw [oU1, if_neg (fun e => h (by rw [e]))]
  have e11 := (v_eq (E (11, b0) (by show 11 ≠ 13; decide))).2.2
  have e8 := (v_eq (E (8, b0 + 2) (by show 8 ≠ 13; decide))).2.2
  have e9 : (fun i => vS (oU [(13, mo, fZ, s')] (oU L Ω)) (9, b0 + 79 + 2 * i)) = fun i => vS (oU L Ω) (9, b0 + 79 + 2 * i) := funext fun i => (v_eq (E (9, b0 + 79 + 2 * i) (by show 9 ≠ 13; decide))).2.2
  obtain ⟨p1, p2, p3, p4, p5, p6, p7⟩ := p
  refine ⟨⟨B _ p1, B _ p2, B _ p3, B _ p4, B _ p5, B _ p6, fun i hi => B _ (p7 i hi)⟩, ?_, ?_, ?_, ?_⟩
  · rw [e13, e11, e8, e9]; exact hrel
  · obtain ⟨q1, b4, st, q2, q3, q4, q5, q6⟩ := hcnt
    have e5 := v_eq (E (5, b0 + 34) (by show 5 ≠ 13; decide))
    have e12 := v_eq (E (12, b4) (by show 12 ≠ 13; decide))
    exact ⟨e5.1.mpr q1, b4, st, by rw [e5.2.1]; exact q2, e12.1.mpr q3, by rw [e5.2.2, e12.2.2]; exact q4, q5, q6⟩
  · rw [e13, e11]
    exact mks_eq hm (fun K hK hv => (E K (by omega)).trans (hA K hK hv)) h22 h10 hc hw
  · rw [e13]
    exact stO_eq (fun K hK => E K (by omega)) hnow
/-- what is not touched -/
theorem stO_V {a : Nat} {Ω Ω2 : oT} {cc : Nat → Int32} {w : Nat → Int64} (hk : ∀ K : Nat × Nat, K.1 = 0 ∨ K.1 = 3 ∨ K.1 = 7 → vI Ω K → Ω2 K = Ω K) (h : stO Ω a cc w) : stO Ω2 a cc w := by
  obtain ⟨h1, bk, h2, h3, h4⟩ := h
  have e7 := v_eq (hk (7, a) (Or.inr (Or.inr rfl)) h1)
  have e0 := v_eq (hk (0, bk) (Or.inl rfl) h3)
  refine ⟨e7.1.mpr h1, bk, by rw [e7.2.1]; exact h2, e0.1.mpr h3, ?_⟩
  rw [e7.2.1, e7.2.2, e0.2.2]
  rcases h4 with h4 | ⟨lb, h5, h6, h7⟩
  · exact Or.inl h4
  · have e3 := v_eq (hk (3, lb) (Or.inr (Or.inl rfl)) h6)
    exact Or.inr ⟨lb, h5, e3.1.mpr h6, by rw [e3.2.2]; exact h7⟩
/-- a call that tells, with new things of its own or in the counter -/
theorem iv_qc {c' : Nat} {s' s0' : RS} {f : Nat → Option Nat} {L : List XR} (hI : IV b0 mo k c Ω) (hA : ∀ K : Nat × Nat, K.1 ≠ 11 → K.1 ≠ 5 → K.1 ≠ 12 → K.1 ≠ 6 → oU L Ω K = Ω K) (h11 : oU L Ω (11, b0) = some (f, s0')) (hrel : rel s' s0' (vS Ω (8, b0 + 2)) (fun i => vS Ω (9, b0 + 79 + 2 * i))) (h22 : s'.1 22 = (vS Ω (13, mo)).1 22) (h10 : s0'.1 10 = (vS Ω (11, b0)).1 10) (h4 : s'.2.2.1 4 = (vS Ω (13, mo)).2.2.1 4) (h5 : s'.2.2.2 5 = (vS Ω (13, mo)).2.2.2 5) (hcnt : cnt b0 (k + 1) (oU L Ω) c') : IV b0 mo (k + 1) c' (oU [(13, mo, fZ, s')] (oU L Ω)) := by
  have e8 := (v_eq (hA (8, b0 + 2) (by show 8 ≠ 11; decide) (by show 8 ≠ 5; decide) (by show 8 ≠ 12; decide) (by show 8 ≠ 6; decide))).2.2
  have e9 : (fun i => vS (oU L Ω) (9, b0 + 79 + 2 * i)) = fun i => vS Ω (9, b0 + 79 + 2 * i) := funext fun i => (v_eq (hA (9, b0 + 79 + 2 * i) (by show 9 ≠ 11; decide) (by show 9 ≠ 5; decide) (by show 9 ≠ 12; decide) (by show 9 ≠ 6; decide))).2.2
  refine iv_G hI (fun K hK _ => hA K (by omega) (by omega) (by omega) (by omega)) ?_ h22 ?_ (fun x _ _ => by rw [h4]) (fun x _ _ => by rw [h5]) hcnt ?_
  · rw [(v_of h11).2.2, e8, e9]; exact hrel
  · rw [(v_of h11).2.2]; exact h10
  · rw [h4, h5]
    exact stO_eq (fun K hK => hA K (by omega) (by omega) (by omega) (by omega)) hI.2.2.2.2
theorem cnt_6 {L : List XR} (h : cnt b0 k Ω c) (hA : ∀ K : Nat × Nat, K.1 = 5 ∨ K.1 = 12 → oU L Ω K = Ω K) : cnt b0 (k + 1) (oU L Ω) c := cnt_eq h (fun K hK _ => hA K hK)
theorem m_leastOut (hI : INV b0 mo k H) (a0 : Int32) : two l b0 mo k yX11_leastOut yX12_leastOut cX11_leastOut cX12_leastOut 3 4 (some .int) [.int a0] H := by
  obtain ⟨Ω, c, hO, hh, hV, hr1, hr2⟩ := hI
  obtain ⟨B, nm, nmI, O, Hh, nO, bk, h13, h11, h8, h7, h0, hq, h26, h30, hB, hw, hR, hnm, hnmI, hH, hHc, hHw, hOw, hOr, hOc, hlog⟩ := iv_now hV
  rcases q_leastOut (s0 := vS Ω (11, b0)) (s1 := vS Ω (7, b0 + 8)) hB hw hR a0 with ⟨a, s', e1, e2, e3⟩ | ⟨a, s', q', e1, e2, e3⟩
  · have hm : oM Ω [(11, b0, vF Ω (11, b0), vS Ω (11, b0)), (7, b0 + 8, vF Ω (7, b0 + 8), vS Ω (7, b0 + 8)), (0, bk, vF Ω (0, bk), vS Ω (0, bk))] := ⟨h11, h7, h0, trivial⟩
    have c1 := pX11_leastOutE_ok (l := l) (h := H) (b0 := b0) (f0 := vF Ω (11, b0)) (f1 := vF Ω (7, b0 + 8)) (f2 := vF Ω (0, bk)) (b2 := bk) (wO_ok hO hm (by simp)) hq (vS Ω (11, b0)) (vS Ω (7, b0 + 8)) (vS Ω (0, bk)) a0 _ e3
    rw [wO_lay hO hm] at c1
    exact two_of (tw (L := [(11, b0, vF Ω (11, b0), uI (vS Ω (11, b0)) 11 (s'.1 0)), (7, b0 + 8, vF Ω (7, b0 + 8), vS Ω (7, b0 + 8)), (0, bk, vF Ω (0, bk), vS Ω (0, bk))]) (s' := s') hO hh (oS_of hm rfl) hV.1.1 (by simp) c1 (fun h hh => pX12_leastOut_ok hh _ a0 (a, s') e1) (iv_q hV (by simp [h7, h0]) ((oUc _ _ _ _).trans (if_pos rfl)) e2) (by omega) (by omega)) (by decide) (by decide)
  · obtain ⟨H1, c1, hO1, hz⟩ := pX11_leastOutT_ok (l := l) rfl hO h11 h7 h0 hq a0 _ e3
    have hA : ∀ K : Nat × Nat, K.1 ≠ 11 → K.1 ≠ 5 → K.1 ≠ 12 → K.1 ≠ 6 → oU [(11, b0, vF Ω (11, b0), uI (vS Ω (11, b0)) 11 (s'.1 0)), (6, H.2.1, fR (some bk) none none, q')] Ω K = Ω K := fun K g1 g2 g3 g4 => oU_ag (fun K => K.1 ≠ 11 ∧ K.1 ≠ 6) (by simp) K ⟨g1, g4⟩
    exact twG (s' := s') hh hV.1.1 (by simp) c1 hO1 hz (by omega) (fun h hh => pX12_leastOut_ok hh _ a0 (a, s') e1) (iv_qc hV hA ((oUc _ _ _ _).trans (if_pos rfl)) (rel_q hV.2.1 e2) e2.1.2.2.2.1 rfl e2.2.2.1.2.2.2.1 e2.2.2.2.2 (cnt_6 hV.2.2.1 (fun K hK => oU_ag (fun K => K.1 ≠ 11 ∧ K.1 ≠ 6) (by simp) K ⟨by omega, by omega⟩))) (by omega) (by omega) (by decide) (by decide)
theorem m_mostQuiet (hI : INV b0 mo k H) : two l b0 mo k yX11_mostQuiet yX12_mostQuiet cX11_mostQuiet cX12_mostQuiet 2 3 (some .int) [] H := by
  obtain ⟨Ω, c, hO, hh, hV, hr1, hr2⟩ := hI
  obtain ⟨B, nm, nmI, O, Hh, nO, bk, h13, h11, h8, h7, h0, hq, h26, h30, hB, hw, hR, hnm, hnmI, hH, hHc, hHw, hOw, hOr, hOc, hlog⟩ := iv_now hV
  obtain ⟨a, s', q', e1, e2, e3⟩ := q_mostQuiet (s0 := vS Ω (11, b0)) (s1 := vS Ω (7, b0 + 8)) hB hw hR
  obtain ⟨H1, c1, hO1, hz⟩ := pX11_mostQuietT_ok (l := l) rfl hO h11 h7 h0 hq _ e3
  have hA : ∀ K : Nat × Nat, K.1 ≠ 11 → K.1 ≠ 5 → K.1 ≠ 12 → K.1 ≠ 6 → oU [(11, b0, vF Ω (11, b0), uI (vS Ω (11, b0)) 11 (s'.1 0)), (6, H.2.1, fR (some bk) none none, q')] Ω K = Ω K := fun K g1 g2 g3 g4 => oU_ag (fun K => K.1 ≠ 11 ∧ K.1 ≠ 6) (by simp) K ⟨g1, g4⟩
  exact twG (s' := s') hh hV.1.1 (by simp) c1 hO1 hz (by omega) (fun h hh => pX12_mostQuiet_ok hh _ (a, s') e1) (iv_qc hV hA ((oUc _ _ _ _).trans (if_pos rfl)) (rel_q hV.2.1 e2) e2.1.2.2.2.1 rfl e2.2.2.1.2.2.2.1 e2.2.2.2.2 (cnt_6 hV.2.2.1 (fun K hK => oU_ag (fun K => K.1 ≠ 11 ∧ K.1 ≠ 6) (by simp) K ⟨by omega, by omega⟩))) (by omega) (by omega) (by decide) (by decide)
end P
