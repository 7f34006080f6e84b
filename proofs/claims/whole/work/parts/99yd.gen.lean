/-! THE LAW: calls that change something, in general -/
section P
variable {l : Launch} {b0 mo k c : Nat} {H : aH} {Ω : oT}
theorem iv_g {s' : RS} {L : List XR} (hI : IV b0 mo k c Ω) (hn13 : ∀ r ∈ L, r.1 ≠ 13) (hL : ∀ r ∈ L, (r.1 = 0 ∨ r.1 = 3 ∨ r.1 = 5 ∨ r.1 = 12 ∨ (r.1 = 7 ∧ r.2.1 ≠ b0 + 8)) → Ω (xk r) = some r.2.2) (hrel : rel s' (vS (oU L Ω) (11, b0)) (vS (oU L Ω) (8, b0 + 2)) (fun i => vS (oU L Ω) (9, b0 + 79 + 2 * i))) (h22 : s'.1 22 = (vS Ω (13, mo)).1 22) (h10 : (vS (oU L Ω) (11, b0)).1 10 = (vS Ω (11, b0)).1 10) (hc : ∀ x, 360 ≤ x → x < 1440 → s'.2.2.1 4 x = (vS Ω (13, mo)).2.2.1 4 x) (hw : ∀ x, 20 ≤ x → x < 80 → s'.2.2.2 5 x = (vS Ω (13, mo)).2.2.2 5 x) (hnow : stO (oU L Ω) (b0 + 8) (s'.2.2.1 4) (s'.2.2.2 5)) : IV b0 mo (k + 1) c (oU [(13, mo, fZ, s')] (oU L Ω)) := by
  obtain ⟨p, hr, hct, hm, hn⟩ := hI
  have B : ∀ K, vI Ω K → vI (oU [(13, mo, fZ, s')] (oU L Ω)) K := fun K h => oU_I (oU_I h)
  have e13 : vS (oU [(13, mo, fZ, s')] (oU L Ω)) (13, mo) = s' := (v_of (f := fZ) ((oU1 _ _ _).trans (if_pos rfl))).2.2
  have E : ∀ K : Nat × Nat, K.1 ≠ 13 → oU [(13, mo, fZ, s')] (oU L Ω) K = oU L Ω K := fun K h => by
    rw [oU1, if_neg (fun e => h (by rw [e]))]
  have A : ∀ K : Nat × Nat, (K.1 = 0 ∨ K.1 = 3 ∨ K.1 = 5 ∨ K.1 = 12 ∨ (K.1 = 7 ∧ K.2 ≠ b0 + 8)) → oU [(13, mo, fZ, s')] (oU L Ω) K = Ω K := fun K h => by
    rw [E K (by omega)]
    exact oU_ag (fun K => K.1 = 0 ∨ K.1 = 3 ∨ K.1 = 5 ∨ K.1 = 12 ∨ (K.1 = 7 ∧ K.2 ≠ b0 + 8)) (fun r hr hp => hL r hr hp) K h
  have e11 := (v_eq (E (11, b0) (by show 11 ≠ 13; decide))).2.2
  have e8 := (v_eq (E (8, b0 + 2) (by show 8 ≠ 13; decide))).2.2
  have e9 : (fun i => vS (oU [(13, mo, fZ, s')] (oU L Ω)) (9, b0 + 79 + 2 * i)) = fun i => vS (oU L Ω) (9, b0 + 79 + 2 * i) := funext fun i => (v_eq (E (9, b0 + 79 + 2 * i) (by show 9 ≠ 13; decide))).2.2
  obtain ⟨p1, p2, p3, p4, p5, p6, p7⟩ := p
  refine ⟨⟨B _ p1, B _ p2, B _ p3, B _ p4, B _ p5, B _ p6, fun i hi => B _ (p7 i hi)⟩, ?_, cnt_eq hct (fun K hK _ => A K (by omega)), ?_, ?_⟩
  · rw [e13, e11, e8, e9]; exact hrel
  · rw [e13, e11]
    exact mks_eq hm (fun K hK _ => A K (by omega)) h22 h10 hc hw
  · rw [e13]
    exact stO_eq (fun K hK => E K (by omega)) hnow
theorem mk_now {Ω2 : oT} {a bk : Nat} {f7 fb : Nat → Option Nat} {s7 r : RS} {cc : Nat → Int32} {w : Nat → Int64} (h7 : Ω2 (7, a) = some (f7, s7)) (hq : f7 0 = some bk) (h0 : Ω2 (0, bk) = some (fb, r)) (h : (f7 1 = none ∧ stR cc w s7 r none) ∨ ∃ lb fl lg, f7 1 = some lb ∧ Ω2 (3, lb) = some (fl, lg) ∧ stR cc w s7 r (some lg)) : stO Ω2 a cc w := by
  obtain ⟨a1, a2, a3⟩ := v_of h7
  obtain ⟨b1, b2, b3⟩ := v_of h0
  refine ⟨a1, bk, by rw [a2]; exact hq, b1, ?_⟩
  rw [a2, a3, b3]
  rcases h with h | ⟨lb, fl, lg, h1, h2, h3⟩
  · exact Or.inl h
  · obtain ⟨d1, d2, d3⟩ := v_of h2
    exact Or.inr ⟨lb, h1, d1, by rw [d3]; exact h3⟩
/-- the State of now is another, the book and the log are the same -/
theorem iv_s7 {s' s0' s7' : RS} {L : List XR} {B nm nmI O Hh : Nat → Nat} {nO bk : Nat} (hI : IV b0 mo k c Ω) (hn13 : ∀ r ∈ L, r.1 ≠ 13) (hL : ∀ r ∈ L, r.1 ≠ 11 → r.1 ≠ 10 → xk r ≠ (7, b0 + 8) → Ω (xk r) = some r.2.2) (h11 : oU L Ω (11, b0) = some (vF Ω (11, b0), s0')) (h7' : oU L Ω (7, b0 + 8) = some (vF Ω (7, b0 + 8), s7')) (h0 : Ω (0, bk) = some (vF Ω (0, bk), vS Ω (0, bk))) (hq : vF Ω (7, b0 + 8) 0 = some bk) (hB : blk (s'.2.2.1 4) 0 B) (hw : wfB B) (hR : bkR B (vS Ω (0, bk))) (hnm : nmR 0 (B 0) nm (s'.2.2.2 5) ((vS Ω (0, bk)).2.2.2 3)) (hnmI : nmR 16 (B 1) nmI (s'.2.2.2 5) ((vS Ω (0, bk)).2.2.2 2)) (hH : hsR (s'.2.2.1 4) Hh) (hHc : hsC s7' Hh) (hHw : hsW B Hh) (hOw : orW B nO O) (hOr : orR (s'.2.2.1 4) nO O) (hOc : orC s7' nO O) (hlog : (vF Ω (7, b0 + 8) 1 = none ∧ s'.2.2.1 4 135 = nI 0) ∨ ∃ lb, vF Ω (7, b0 + 8) 1 = some lb ∧ Ω (3, lb) = some (vF Ω (3, lb), vS Ω (3, lb)) ∧ s'.2.2.1 4 135 = nI 1 ∧ ∃ R T, lgR B (vS Ω (3, lb)) (s'.2.2.1 4) R T) (hrel : rel s' s0' (vS Ω (8, b0 + 2)) (fun i => vS Ω (9, b0 + 79 + 2 * i))) (h22 : s'.1 22 = (vS Ω (13, mo)).1 22) (h10 : s0'.1 10 = (vS Ω (11, b0)).1 10) (hc : ∀ x, 360 ≤ x → x < 1440 → s'.2.2.1 4 x = (vS Ω (13, mo)).2.2.1 4 x) (hw5 : ∀ x, 20 ≤ x → x < 80 → s'.2.2.2 5 x = (vS Ω (13, mo)).2.2.2 5 x) : IV b0 mo (k + 1) c (oU [(13, mo, fZ, s')] (oU L Ω)) := by
  have A : ∀ K : Nat × Nat, K.1 ≠ 11 → K.1 ≠ 10 → K ≠ (7, b0 + 8) → oU L Ω K = Ω K := fun K h1 h2 h3 => oU_ag (fun K => K.1 ≠ 11 ∧ K.1 ≠ 10 ∧ K ≠ (7, b0 + 8)) (fun r hr hp => hL r hr hp.1 hp.2.1 hp.2.2) K ⟨h1, h2, h3⟩
  have n7 : ∀ K : Nat × Nat, K.1 ≠ 7 → K ≠ (7, b0 + 8) := fun K h e => h (by rw [e])
  have e8 := (v_eq (A (8, b0 + 2) (by show 8 ≠ 11; decide) (by show 8 ≠ 10; decide) (n7 _ (by show 8 ≠ 7; decide)))).2.2
  have e9 : (fun i => vS (oU L Ω) (9, b0 + 79 + 2 * i)) = fun i => vS Ω (9, b0 + 79 + 2 * i) := funext fun i => (v_eq (A (9, b0 + 79 + 2 * i) (by show 9 ≠ 11; decide) (by show 9 ≠ 10; decide) (n7 _ (by show 9 ≠ 7; decide)))).2.2
  refine iv_g hI hn13 (fun r hr h => hL r hr (by omega) (by omega) (fun e => ?_)) ?_ h22 ?_ hc hw5 ?_
  · have e1 : r.1 = 7 := congrArg Prod.fst e
    have e2 : r.2.1 = b0 + 8 := congrArg Prod.snd e
    omega
  · rw [(v_of h11).2.2, e8, e9]; exact hrel
  · rw [(v_of h11).2.2]; exact h10
  · refine mk_now h7' hq ((A (0, bk) (by show 0 ≠ 11; decide) (by show 0 ≠ 10; decide) (n7 _ (by show 0 ≠ 7; decide))).trans h0) ?_
    rcases hlog with ⟨l1, l2⟩ | ⟨lb, l1, l2, l3, R, T, l4⟩
    · exact Or.inl ⟨l1, B, nm, nmI, O, Hh, nO, hB, hw, hR, hnm, hnmI, hH, hHc, hHw, hOw, hOr, hOc, l2⟩
    · exact Or.inr ⟨lb, _, _, l1, (A (3, lb) (by show 3 ≠ 11; decide) (by show 3 ≠ 10; decide) (n7 _ (by show 3 ≠ 7; decide))).trans l2, B, nm, nmI, O, Hh, nO, hB, hw, hR, hnm, hnmI, hH, hHc, hHw, hOw, hOr, hOc, l3, R, T, l4⟩
/-- a tray is another -/
theorem iv_t {s' : RS} {L : List XR} {f : Nat → Option Nat} {i : Nat} (hi : i < 4) {T' : RS} (hI : IV b0 mo k c Ω) (hn13 : ∀ r ∈ L, r.1 ≠ 13) (hL : ∀ r ∈ L, r.1 ≠ 11 → xk r ≠ (9, b0 + 79 + 2 * i) → Ω (xk r) = some r.2.2) (h11 : oU L Ω (11, b0) = some (f, uI (vS Ω (11, b0)) 11 0)) {f9 : Nat → Option Nat} (h9 : oU L Ω (9, b0 + 79 + 2 * i) = some (f9, T')) (hs : trM i (vS Ω (13, mo)) s') (h0 : s'.1 0 = 0) (ht : trR s' i T') : IV b0 mo (k + 1) c (oU [(13, mo, fZ, s')] (oU L Ω)) := by
  have A : ∀ K : Nat × Nat, K.1 ≠ 11 → K ≠ (9, b0 + 79 + 2 * i) → oU L Ω K = Ω K := fun K h1 h2 => oU_ag (fun K => K.1 ≠ 11 ∧ K ≠ (9, b0 + 79 + 2 * i)) (fun r hr hp => hL r hr hp.1 hp.2) K ⟨h1, h2⟩
  have n9 : ∀ K : Nat × Nat, K.1 ≠ 9 → K ≠ (9, b0 + 79 + 2 * i) := fun K h e => h (by rw [e])
  have e8 := (v_eq (A (8, b0 + 2) (by show 8 ≠ 11; decide) (n9 _ (by show 8 ≠ 9; decide)))).2.2
  obtain ⟨⟨⟨b1, b2, b3, b4, b5⟩, ⟨b6, b7⟩, ⟨b8, b9, b10⟩, b11⟩, t2, t3⟩ := hs
  have hnow := hI.2.2.2.2
  obtain ⟨⟨a1, a2, a3⟩, ⟨a4, a5⟩, ⟨⟨n, a6⟩, a7, a8, a9⟩, a10⟩ := hI.2.1
  refine iv_g hI hn13 (fun r hr h => hL r hr (by omega) (fun e => ?_)) ?_ b4 ?_ (fun x _ _ => by rw [b9]) (fun x _ _ => by rw [b11]) ?_
  · have e1 : r.1 = 9 := congrArg Prod.fst e
    omega
  · rw [(v_of h11).2.2, e8]
    refine ⟨⟨h0, b6.trans a2, b7.trans a3⟩, ⟨b5.trans a4, fun q j hj => by rw [b10]; exact a5 (by rw [← b5]; exact q) j hj⟩, ⟨⟨n, tpR_cg b1 b8 a6⟩, b2.trans a7, b3.trans a8, a9⟩, fun j hj => ?_⟩
    by_cases ej : j = i
    · rw [ej]
      show trR s' i (vS (oU L Ω) (9, b0 + 79 + 2 * i))
      rw [(v_of h9).2.2]; exact ht
    · show trR s' j (vS (oU L Ω) (9, b0 + 79 + 2 * j))
      rw [(v_eq (A (9, b0 + 79 + 2 * j) (by show 9 ≠ 11; decide) (fun e => ej (by have := congrArg Prod.snd e; dsimp only at this; omega)))).2.2]
      have h1 := a10 j hj
      unfold trR at h1 ⊢
      rw [(t2 j ej).1, (t2 j ej).2]
      rcases h1 with h1 | ⟨so, m, q1, q2, q3, q4, q5, q6, q7⟩
      · exact Or.inl h1
      · exact Or.inr ⟨so, m, q1, q2, q3, q4, q5, q6, fun x hx => by rw [t3 _ (by omega)]; exact q7 x hx⟩
  · rw [(v_of h11).2.2]; rfl
  · rw [b9, b11]
    exact stO_eq (fun K hK => A K (by omega) (n9 K (by omega))) hnow
/-- which tray -/
theorem tr_ix (a0 : Int32) : ∃ i, i < 4 ∧ (vp_in a0 4 → b0 + 79 + 2 * a0.toNatClampNeg = b0 + 79 + 2 * i) ∧ ∀ j, j < 4 → a0 = nI j → j = i := by
  rcases pk_ix a0 (n := 4) (by omega) with g | g | ⟨i, hi, rfl⟩
  · refine ⟨0, by omega, fun h => absurd (Or.inl g) h, fun j hj e => ?_⟩
    rw [e] at g
    exact absurd g (nI_pos (by omega))
  · refine ⟨0, by omega, fun h => ?_, fun j hj e => ?_⟩
    · exfalso
      apply h
      right
      rw [Int32.le_iff_toInt_le, nI_toInt (by omega)] at g
      show 4 ≤ a0.toInt.toNat
      omega
    · rw [e] at g
      exact absurd g (nI_ge (by omega) (by omega))
  · exact ⟨i, hi, fun _ => by rw [nI_clamp (by omega)], fun j hj e => ((nI_eq (by omega) (by omega)).mp e).symm⟩
end P
