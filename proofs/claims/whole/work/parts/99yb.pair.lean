/-! THE LAW: a call of the class, the same call of the reference -/
section P
variable {l : Launch} {b0 mo k c : Nat} {H : aH} {Ω : oT}
theorem oU1 (r : XR) (Ω : oT) (K : Nat × Nat) : oU [r] Ω K = if K = xk r then some r.2.2 else Ω K := rfl
theorem oUc (r : XR) (L : List XR) (Ω : oT) (K : Nat × Nat) : oU (r :: L) Ω K = if K = xk r then some r.2.2 else oU L Ω K := rfl
def rcv (mo : Nat) (H : aH) : Prop := mo < H.2.1 ∧ ∃ fs, H.1 mo = .inr (12, fs)
def okR : Option FieldType → Option Value → Prop
  | some .long, r => ∃ x, r = some (.long x)
  | _, r => ∃ x, r = some (.int x)
theorem rcv_of {n : Nat} (hO : wO H Ω n) (h : vI Ω (13, mo)) (hh : mo + 18 ≤ H.2.1) : rcv mo H := ⟨by omega, _, hO.2.2 13 mo _ _ (v_some h) 0 (rC mo (vS Ω (13, mo)) 0) rfl⟩
theorem tw {y y' : MethodName} {cc cc' : ByteArray} {nL nL' d d' : Nat} {ret : Option FieldType} {As : List Value} {rr : Option Value} {s' : RS} {L : List XR} (hO : wO H Ω H.2.1) (hh : mo + 18 ≤ H.2.1) (hS : oS Ω L) (h13 : vI Ω (13, mo)) (hn : ∀ r ∈ L, r.1 ≠ 13) (c1 : aMet l d y cc nL ret (.ref b0 :: As) H rr (xw L H)) (c2 : ∀ h : aH, mo + 18 ≤ h.2.1 → aMet l d' y' cc' nL' ret (.ref mo :: As) (rH mo h (vS Ω (13, mo))) rr (rH mo h s')) {k' c' : Nat} (hIV : IV b0 mo k' c' (oU [(13, mo, fZ, s')] (oU L Ω))) (hr1 : H.2.1 ≤ 1000 + 15 * k') (hr2 : H.2.2 ≤ 100000 + 400 * k' + 2 * 2 ^ c') (hrr : okR ret rr := by exact ⟨_, rfl⟩) : ∃ r H1 H2, aMet l d y cc nL ret (.ref b0 :: As) H r H1 ∧ aMet l d' y' cc' nL' ret (.ref mo :: As) H1 r H2 ∧ INV b0 mo k' H2 ∧ rcv mo H1 ∧ okR ret r := by
  have hO1 := wO_up hO hS
  have e2 : (xw L H).2 = H.2 := xw_2 L H
  have h131 : vI (oU L Ω) (13, mo) := oU_I h13
  have es : vS (oU L Ω) (13, mo) = vS Ω (13, mo) := by
    have : ∀ L : List XR, (∀ r ∈ L, r.1 ≠ 13) → vS (oU L Ω) (13, mo) = vS Ω (13, mo) := by
      intro L
      induction L with
      | nil => intro _; rfl
      | cons r L ih =>
        intro h
        have e : ¬ (13, mo) = xk r := fun e => h r List.mem_cons_self (congrArg Prod.fst e).symm
        have ih' := ih (fun q hq => h q (List.mem_cons_of_mem _ hq))
        unfold vS at ih' ⊢
        show ((if (13, mo) = xk r then some r.2.2 else oU L Ω (13, mo)).getD (fZ, z0)).2 = _
        rw [if_neg e]; exact ih'
    exact this L hn
  have q2 := c2 (xw L H) (by rw [e2]; exact hh)
  have el := rH_lay hO1 h131
  rw [es] at el
  rw [el, rH_oH (f := fZ)] at q2
  refine ⟨rr, xw L H, oH (13, mo, fZ, s') (xw L H), c1, q2, ⟨oU [(13, mo, fZ, s')] (oU L Ω), c', ?_, ?_, hIV, ?_, ?_⟩, rcv_of hO1 h131 (by rw [e2]; exact hh), hrr⟩
  · have := wO_1 (r := (13, mo, fZ, s')) hO1 h131
    show wO (oH (13, mo, fZ, s') (xw L H)) _ (xw L H).2.1
    rw [e2]; exact this
  · show mo + 18 ≤ (xw L H).2.1
    rw [e2]; exact hh
  · show (xw L H).2.1 ≤ _
    rw [e2]; exact hr1
  · show (xw L H).2.2 ≤ _
    rw [e2]; exact hr2
theorem stO_eq {a : Nat} {Ω Ω2 : oT} {cc : Nat → Int32} {w : Nat → Int64} (hk : ∀ K : Nat × Nat, K.1 = 0 ∨ K.1 = 3 ∨ K.1 = 7 → Ω2 K = Ω K) (h : stO Ω a cc w) : stO Ω2 a cc w := by
  obtain ⟨h1, bk, h2, h3, h4⟩ := h
  have e7 := v_eq (hk (7, a) (Or.inr (Or.inr rfl)))
  have e0 := v_eq (hk (0, bk) (Or.inl rfl))
  refine ⟨e7.1.mpr h1, bk, by rw [e7.2.1]; exact h2, e0.1.mpr h3, ?_⟩
  rw [e7.2.1, e7.2.2, e0.2.2]
  rcases h4 with h4 | ⟨lb, h5, h6, h7⟩
  · exact Or.inl h4
  · have e3 := v_eq (hk (3, lb) (Or.inr (Or.inl rfl)))
    exact Or.inr ⟨lb, h5, e3.1.mpr h6, by rw [e3.2.2]; exact h7⟩
theorem trR_cg {s s' T : RS} {i : Nat} (h0 : s'.2.2.1 0 = s.2.2.1 0) (h1 : s'.2.2.1 1 = s.2.2.1 1) (h2 : s'.2.2.2 2 = s.2.2.2 2) (h : trR s i T) : trR s' i T := by
  unfold trR at h ⊢
  rw [h0, h1, h2]; exact h
theorem tpR_cg {s s' q : RS} {n : Nat} (h8 : s'.1 8 = s.1 8) (h3 : s'.2.2.1 3 = s.2.2.1 3) (h : tpR n s q) : tpR n s' q := by
  unfold tpR at h ⊢
  rw [h8, h3]; exact h
theorem rel_q {s s' s0 s8 : RS} {sT : Nat → RS} (h : rel s s0 s8 sT) (hs : rsame s s') : rel s' (uI s0 11 (s'.1 0)) s8 sT := by
  obtain ⟨⟨a1, a2, a3⟩, ⟨a4, a5⟩, ⟨⟨n, a6⟩, a7, a8, a9⟩, a10⟩ := h
  obtain ⟨⟨b1, b2, b3, b4, b5⟩, ⟨b6, b7⟩, ⟨b8, b9, b10, b11, b12⟩, b13, b14⟩ := hs
  exact ⟨⟨rfl, b6.trans a2, b7.trans a3⟩, ⟨b5.trans a4, fun q i hi => by rw [b12]; exact a5 (by rw [← b5]; exact q) i hi⟩, ⟨⟨n, tpR_cg b1 b10 a6⟩, b2.trans a7, b3.trans a8, a9⟩, fun i hi => trR_cg b8 b9 b13 (a10 i hi)⟩
/-- a call that only tells -/
theorem iv_q {s' : RS} {f : Nat → Option Nat} {L : List XR} (hI : IV b0 mo k c Ω) (hL : ∀ r ∈ L, r.1 ≠ 11 → r.1 ≠ 2 → r.1 ≠ 10 → Ω (xk r) = some r.2.2) (h11 : oU L Ω (11, b0) = some (f, uI (vS Ω (11, b0)) 11 (s'.1 0))) (hs : rsame (vS Ω (13, mo)) s') : IV b0 mo (k + 1) c (oU [(13, mo, fZ, s')] (oU L Ω)) := by
  obtain ⟨p, hr, hc, hm, hn⟩ := hI
  have A : ∀ K : Nat × Nat, K.1 ≠ 13 → K.1 ≠ 11 → K.1 ≠ 2 → K.1 ≠ 10 → oU [(13, mo, fZ, s')] (oU L Ω) K = Ω K := fun K h1 h2 h3 h4 => by
    show (if K = (13, mo) then _ else oU L Ω K) = _
    rw [if_neg (fun e => h1 (by rw [e]))]
    exact oU_ag (fun K => K.1 ≠ 11 ∧ K.1 ≠ 2 ∧ K.1 ≠ 10) (fun r hr hp => hL r hr hp.1 hp.2.1 hp.2.2) K ⟨h2, h3, h4⟩
  have B : ∀ K, vI Ω K → vI (oU [(13, mo, fZ, s')] (oU L Ω)) K := fun K h => oU_I (oU_I h)
  have e13 : vS (oU [(13, mo, fZ, s')] (oU L Ω)) (13, mo) = s' := by
    refine (v_of (f := fZ) ?_).2.2
    exact if_pos rfl
  have e11 : vS (oU [(13, mo, fZ, s')] (oU L Ω)) (11, b0) = uI (vS Ω (11, b0)) 11 (s'.1 0) := by
    refine (v_of (f := f) ?_).2.2
    rw [oU1, if_neg (by intro e; cases e)]; exact h11
  have e8 := (v_eq (A (8, b0 + 2) (by show 8 ≠ 13; decide) (by show 8 ≠ 11; decide) (by show 8 ≠ 2; decide) (by show 8 ≠ 10; decide))).2.2
  have e9 : ∀ i, vS (oU [(13, mo, fZ, s')] (oU L Ω)) (9, b0 + 79 + 2 * i) = vS Ω (9, b0 + 79 + 2 * i) := fun i => (v_eq (A (9, b0 + 79 + 2 * i) (by show 9 ≠ 13; decide) (by show 9 ≠ 11; decide) (by show 9 ≠ 2; decide) (by show 9 ≠ 10; decide))).2.2
  obtain ⟨p1, p2, p3, p4, p5, p6, p7⟩ := p
  refine ⟨⟨B _ p1, B _ p2, B _ p3, B _ p4, B _ p5, B _ p6, fun i hi => B _ (p7 i hi)⟩, ?_, cnt_eq hc (fun K hK _ => A K (by omega) (by omega) (by omega) (by omega)), ?_, ?_⟩
  · rw [e13, e11, e8]
    have := rel_q hr hs
    obtain ⟨r1, r2, r3, r4⟩ := this
    exact ⟨r1, r2, r3, fun i hi => by show trR s' i (vS (oU [(13, mo, fZ, s')] (oU L Ω)) (9, b0 + 79 + 2 * i)); rw [e9]; exact r4 i hi⟩
  · rw [e13, e11]
    exact mks_eq hm (fun K hK _ => A K (by omega) (by omega) (by omega) (by omega)) hs.1.2.2.2.1 rfl (fun x _ _ => by rw [hs.2.2.1.2.2.2.1]) (fun x _ _ => by rw [hs.2.2.2.2])
  · rw [e13, hs.2.2.1.2.2.2.1, hs.2.2.2.2]
    exact stO_eq (fun K hK => A K (by omega) (by omega) (by omega) (by omega)) hn
/-- the State of now, opened -/
theorem iv_now (hI : IV b0 mo k c Ω) : ∃ (B nm nmI O Hh : Nat → Nat) (nO bk : Nat), Ω (13, mo) = some (vF Ω (13, mo), vS Ω (13, mo)) ∧ Ω (11, b0) = some (vF Ω (11, b0), vS Ω (11, b0)) ∧ Ω (8, b0 + 2) = some (vF Ω (8, b0 + 2), vS Ω (8, b0 + 2)) ∧ Ω (7, b0 + 8) = some (vF Ω (7, b0 + 8), vS Ω (7, b0 + 8)) ∧ Ω (0, bk) = some (vF Ω (0, bk), vS Ω (0, bk)) ∧ vF Ω (7, b0 + 8) 0 = some bk ∧ Ω (2, b0 + 26) = some (vF Ω (2, b0 + 26), vS Ω (2, b0 + 26)) ∧ Ω (2, b0 + 30) = some (vF Ω (2, b0 + 30), vS Ω (2, b0 + 30)) ∧ blk ((vS Ω (13, mo)).2.2.1 4) 0 B ∧ wfB B ∧ bkR B (vS Ω (0, bk)) ∧ nmR 0 (B 0) nm ((vS Ω (13, mo)).2.2.2 5) ((vS Ω (0, bk)).2.2.2 3) ∧ nmR 16 (B 1) nmI ((vS Ω (13, mo)).2.2.2 5) ((vS Ω (0, bk)).2.2.2 2) ∧ hsR ((vS Ω (13, mo)).2.2.1 4) Hh ∧ hsC (vS Ω (7, b0 + 8)) Hh ∧ hsW B Hh ∧ orW B nO O ∧ orR ((vS Ω (13, mo)).2.2.1 4) nO O ∧ orC (vS Ω (7, b0 + 8)) nO O ∧ ((vF Ω (7, b0 + 8) 1 = none ∧ (vS Ω (13, mo)).2.2.1 4 135 = nI 0) ∨ ∃ lb, vF Ω (7, b0 + 8) 1 = some lb ∧ Ω (3, lb) = some (vF Ω (3, lb), vS Ω (3, lb)) ∧ (vS Ω (13, mo)).2.2.1 4 135 = nI 1 ∧ ∃ R T, lgR B (vS Ω (3, lb)) ((vS Ω (13, mo)).2.2.1 4) R T) := by
  obtain ⟨⟨p1, p2, p3, p4, p5, p6, p7⟩, hr, hc, hm, h1, bk, h2, h3, h4⟩ := hI
  rcases h4 with ⟨h4, h5⟩ | ⟨lb, h5, h6, h7⟩
  · obtain ⟨B, nm, nmI, O, Hh, nO, a1, a2, a3, a4, a5, a6, a7, a8, a9, a10, a11, a12⟩ := h5
    exact ⟨B, nm, nmI, O, Hh, nO, bk, v_some p1, v_some p2, v_some p3, v_some h1, v_some h3, h2, v_some p4, v_some p5, a1, a2, a3, a4, a5, a6, a7, a8, a9, a10, a11, Or.inl ⟨h4, a12⟩⟩
  · obtain ⟨B, nm, nmI, O, Hh, nO, a1, a2, a3, a4, a5, a6, a7, a8, a9, a10, a11, a12⟩ := h7
    exact ⟨B, nm, nmI, O, Hh, nO, bk, v_some p1, v_some p2, v_some p3, v_some h1, v_some h3, h2, v_some p4, v_some p5, a1, a2, a3, a4, a5, a6, a7, a8, a9, a10, a11, Or.inr ⟨lb, h5, v_some h6, a12⟩⟩
end P
