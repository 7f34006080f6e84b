/-! METHODS THAT MAKE SOMETHING NEW -/
def zW (n : Int32) : RS := (fun _ => n, fun _ => 0, fun _ _ => 0, fun _ _ => 0)
def z0 : RS := (fun _ => 0, fun _ => 0, fun _ _ => 0, fun _ _ => 0)
def fZ : Nat → Option Nat := fun _ => none
theorem reg_W {H : aH} {n : Int32} : a_nw H (.inl (1, z_L n.toNatClampNeg)) n.toNatClampNeg = oH (12, H.2.1, fZ, zW n) (bmp H 1 n.toNatClampNeg) := by
  rw [nH_0]; exact nH_reg (fun o => match o with | 0 => rfl | _ + 1 => rfl)
theorem xD12_0 {o : Nat} (h : xD 12 o = true) : o = 0 := by
  cases o with
  | zero => rfl
  | succ o => cases h
theorem g_sz_of {γ : Type} {n : Int32} {e : Option γ} (h : ¬ n < 0 ∧ n.toNatClampNeg ≤ 100000) : g_sz n e = e := by
  rw [g_sz, if_neg]
  rintro (hh | hh)
  · exact h.1 hh
  · exact absurd hh (Nat.not_lt.mpr h.2)
section
variable {l : Launch} {d : Nat} {M : aM} {n0 S0 pc : Nat} {lv : List (Nat × Value)} {st : List Value} {h h1 h' : aH} {r r1 : Option Value}
theorem ev_newLv {n : Int32} (hd : decode M.1 pc = .ok (.newarray .long, 2)) (hsz : ¬ n < 0 ∧ n.toNatClampNeg ≤ 100000) (k : aEv l d M n0 S0 (pc + 2) lv (.ref h.2.1 :: st) (a_nw h (.inl (1, z_L n.toNatClampNeg)) n.toNatClampNeg) r h') : aEv l d M n0 S0 pc lv (.int n :: st) h r h' :=
  ev_of (fun z hz => s_newLv (e := some ()) hd wa_long (ev_as k) z ((g_sz_of hsz).trans hz))
theorem ev_new {index ci N : Nat} {fs : List Value} (hf : a_NW M.2.1 index ci N fs) (hd : decode M.1 pc = .ok (.new index, 3)) (k : aEv l d M n0 S0 (pc + 3) lv (.ref h.2.1 :: st) (nH h [.inr (ci, fs)] N) r h') : aEv l d M n0 S0 pc lv st h r h' :=
  ev_of (s_new hf hd (ev_as (by rw [nH_0]; exact k)))
theorem ev_marks {Ω : oT} {n b a : Nat} {f : Nat → Option Nat} {s : RS} {i : Int32} (hO : wO h Ω n) (hk : Ω (11, b) = some (f, s)) (hi : vp_in i 3) (ha : b + 87 + 17 * i.toNatClampNeg = a) (hd : decode M.1 pc = .ok (.aaload, 1)) (k : aEv l d M n0 S0 (pc + 1) lv (.ref a :: st) h r h') : aEv l d M n0 S0 pc lv (.int i :: .ref (b + 25) :: st) h r h' := by
  have m : oM Ω [(11, b, f, s)] := ⟨hk, trivial⟩
  have e := wO_lay hO m
  have q := x_marks (l := l) (d := d) (M := M) (n0 := n0) (S0 := S0) (Φ := fun (_ : Unit) r2 h2 => r2 = r ∧ h2 = h') (pc := pc) (lv := lv) (st := st) (h := h) (L := [(11, b, f, s)]) (e := some ()) 0 (wO_ok hO m (by simp)) rfl (fun _ => ha) hd (by rw [e]; exact ev_as k)
  rw [e] at q
  exact ev_of (fun z hz => q z (by rw [g_in, if_neg hi]))
end
def pX5_countOrdersWithG (s0 s1 s2 : RS) (a1 a2 a3 : Int32) : Option (Int32 × Int64 × RS × RS) :=
  (pX5_countOrdersWithGh s0 s1 s2 a1 a2 a3).bind fun q => g_sz q.1 ((pX5_countOrdersWithGt q.2 s1 (zW q.1)).bind fun x => some (q.1, x))
theorem pX5_countOrdersWithG_ok {l : Launch} {H : aH} {Ω : oT} {N b0 b1 b2 : Nat} {f0 f1 f2 : Nat → Option Nat} {s0 s1 s2 : RS} (hN : H.2.1 = N) (hO : wO H Ω N) (h0 : Ω (5, b0) = some (f0, s0)) (h1 : Ω (0, b1) = some (f1, s1)) (h2 : Ω (12, b2) = some (f2, s2)) (hq : f0 5 = some b2) (a1 a2 a3 : Int32) : ∀ x, pX5_countOrdersWithG s0 s1 s2 a1 a2 a3 = some x → ∃ H', aMet l 61 yX5_countOrdersWith cX5_countOrdersWith 5 (some .long) [.ref b0, .ref b1, .int a1, .int a2, .int a3] H (some (.long x.2.1)) H' ∧ wO H' (oU [(5, b0, (va_up (va_up f0 0 (some b1)) 5 (some N)), x.2.2.1), (12, N, fZ, x.2.2.2)] Ω) (N + 1) ∧ H'.2 = (N + 1, H.2.2 + x.1.toNatClampNeg) := by
  intro x hx
  obtain ⟨q, hq1, hx⟩ := Option.bind_eq_some_iff.mp hx
  obtain ⟨hsz, hx⟩ := g_sz_some hx
  obtain ⟨y, hy, hx⟩ := Option.bind_eq_some_iff.mp hx
  cases hx
  have hn : b2 ≠ N := Nat.ne_of_lt (wO_ne hO h2 rfl)
  have m1 : oM Ω [(5, b0, f0, s0), (0, b1, f1, s1), (12, b2, f2, s2)] := ⟨h0, h1, h2, trivial⟩
  have e1 := wO_lay hO m1
  have w1 := pX5_countOrdersWithGh_w (l := l) (n0 := N) (S0 := H.2.2) (h := H) (b0 := b0) (b1 := b1) (b2 := b2) (f0 := f0) (f1 := f1) (f2 := f2) (wO_ok hO m1 (by simp [hn, Ne.symm hn])) hq s0 s1 s2 a1 a2 a3 q hq1
  rw [e1] at w1
  try dsimp only at w1
  have O1 := wO_up hO (L := [(5, b0, va_up f0 0 (some b1), q.2), (0, b1, f1, s1), (12, b2, f2, s2)]) (oS_of m1 rfl)
  have u1 : oU [(5, b0, va_up f0 0 (some b1), q.2), (0, b1, f1, s1), (12, b2, f2, s2)] Ω = oU [(5, b0, va_up f0 0 (some b1), q.2)] Ω := (oU_k (oU_s (oU_s rfl (by simp [oU, xk, h2, hn, Ne.symm hn])) (by simp [oU, xk, h1, hn, Ne.symm hn])))
  rw [u1] at O1
  generalize hH1 : xw [(5, b0, va_up f0 0 (some b1), q.2), (0, b1, f1, s1), (12, b2, f2, s2)] H = H1 at O1 w1
  have z1 : H1.2 = H.2 := by rw [← hH1]; rfl
  have g1 : (oU [(5, b0, va_up f0 0 (some b1), q.2)] Ω) (0, b1) = some (f1, s1) := by simp [oU, xk, h1, hn, Ne.symm hn]
  have g2 : (oU [(5, b0, va_up f0 0 (some b1), q.2)] Ω) (12, b2) = some (f2, s2) := by simp [oU, xk, h2, hn, Ne.symm hn]
  have g3 : (oU [(5, b0, va_up f0 0 (some b1), q.2)] Ω) (5, b0) = some (va_up f0 0 (some b1), q.2) := by simp [oU, xk, hn, Ne.symm hn]
  have O2 := wO_add (wO_bmp (a := 1) (k := q.1.toNatClampNeg) O1) (r := (12, N, fZ, zW q.1)) (m := N + 1) (fun o ho => by rw [xD12_0 ho]; exact ⟨Nat.le_refl _, Nat.lt_succ_self _⟩) (Nat.le_succ _) (by show _ ≤ H1.2.1 + 1; rw [z1, hN]; exact Nat.le_refl _)
  generalize hH2 : oH (12, N, fZ, zW q.1) (bmp H1 1 q.1.toNatClampNeg) = H2 at O2
  have z2 : H2.2 = (N + 1, H.2.2 + q.1.toNatClampNeg) := by rw [← hH2]; show (H1.2.1 + 1, H1.2.2 + _) = _; rw [z1, hN]
  have g4 : (oU [(12, N, fZ, zW q.1)] (oU [(5, b0, va_up f0 0 (some b1), q.2)] Ω)) (0, b1) = some (f1, s1) := by simp [oU, xk, h1, hn, Ne.symm hn]
  have g5 : (oU [(12, N, fZ, zW q.1)] (oU [(5, b0, va_up f0 0 (some b1), q.2)] Ω)) (12, b2) = some (f2, s2) := by simp [oU, xk, h2, hn, Ne.symm hn]
  have g6 : (oU [(12, N, fZ, zW q.1)] (oU [(5, b0, va_up f0 0 (some b1), q.2)] Ω)) (5, b0) = some (va_up f0 0 (some b1), q.2) := by simp [oU, xk, h0, hn, Ne.symm hn]
  have g7 : (oU [(12, N, fZ, zW q.1)] (oU [(5, b0, va_up f0 0 (some b1), q.2)] Ω)) (12, N) = some (fZ, zW q.1) := by simp [oU, xk, hn, Ne.symm hn]
  have m3 : oM (oU [(12, N, fZ, zW q.1)] (oU [(5, b0, va_up f0 0 (some b1), q.2)] Ω)) [(5, b0, va_up f0 0 (some b1), q.2), (0, b1, f1, s1), (12, N, fZ, zW q.1)] := ⟨g6, g4, g7, trivial⟩
  have e3 := wO_lay O2 m3
  have w3 := pX5_countOrdersWithGt_w (l := l) (n0 := N) (S0 := H.2.2) (h := H2) (b0 := b0) (b1 := b1) (b2 := N) (f0 := va_up f0 0 (some b1)) (f1 := f1) (f2 := fZ) (wO_ok O2 m3 (by simp [hn, Ne.symm hn])) rfl q.2 s1 (zW q.1) y hy _ _ ⟨rfl, rfl⟩
  rw [e3] at w3
  try dsimp only at w3
  have O3 := wO_up O2 (L := [(5, b0, va_up (va_up f0 0 (some b1)) 5 (some N), y.2.1), (0, b1, f1, s1), (12, N, fZ, y.2.2)]) (oS_of m3 rfl)
  have u3 : oU [(5, b0, va_up (va_up f0 0 (some b1)) 5 (some N), y.2.1), (0, b1, f1, s1), (12, N, fZ, y.2.2)] (oU [(12, N, fZ, zW q.1)] (oU [(5, b0, va_up f0 0 (some b1), q.2)] Ω)) = oU [(5, b0, va_up (va_up f0 0 (some b1)) 5 (some N), y.2.1), (12, N, fZ, y.2.2)] (oU [(12, N, fZ, zW q.1)] (oU [(5, b0, va_up f0 0 (some b1), q.2)] Ω)) := (oU_k (oU_s (oU_k rfl) (by simp [oU, xk, h1, hn, Ne.symm hn])))
  rw [u3] at O3
  generalize hH3 : xw [(5, b0, va_up (va_up f0 0 (some b1)) 5 (some N), y.2.1), (0, b1, f1, s1), (12, N, fZ, y.2.2)] H2 = H3 at O3 w3
  have z3 : H3.2 = H2.2 := by rw [← hH3]; rfl
  have g8 : (oU [(5, b0, va_up (va_up f0 0 (some b1)) 5 (some N), y.2.1), (12, N, fZ, y.2.2)] (oU [(12, N, fZ, zW q.1)] (oU [(5, b0, va_up f0 0 (some b1), q.2)] Ω))) (0, b1) = some (f1, s1) := by simp [oU, xk, h1, hn, Ne.symm hn]
  have g9 : (oU [(5, b0, va_up (va_up f0 0 (some b1)) 5 (some N), y.2.1), (12, N, fZ, y.2.2)] (oU [(12, N, fZ, zW q.1)] (oU [(5, b0, va_up f0 0 (some b1), q.2)] Ω))) (12, b2) = some (f2, s2) := by simp [oU, xk, h2, hn, Ne.symm hn]
  have g10 : (oU [(5, b0, va_up (va_up f0 0 (some b1)) 5 (some N), y.2.1), (12, N, fZ, y.2.2)] (oU [(12, N, fZ, zW q.1)] (oU [(5, b0, va_up f0 0 (some b1), q.2)] Ω))) (5, b0) = some (va_up (va_up f0 0 (some b1)) 5 (some N), y.2.1) := by simp [oU, xk, hn, Ne.symm hn]
  have g11 : (oU [(5, b0, va_up (va_up f0 0 (some b1)) 5 (some N), y.2.1), (12, N, fZ, y.2.2)] (oU [(12, N, fZ, zW q.1)] (oU [(5, b0, va_up f0 0 (some b1), q.2)] Ω))) (12, N) = some (fZ, y.2.2) := by simp [oU, xk, hn, Ne.symm hn]
  have e9 : oU [(5, b0, va_up (va_up f0 0 (some b1)) 5 (some N), y.2.1), (12, N, fZ, y.2.2)] (oU [(12, N, fZ, zW q.1)] (oU [(5, b0, va_up f0 0 (some b1), q.2)] Ω)) = oU [(5, b0, (va_up (va_up f0 0 (some b1)) 5 (some N)), y.2.1), (12, N, fZ, y.2.2)] Ω := by
    funext k
    simp only [oU, xk]
    try (by_cases k0 : k = (5, b0) <;> by_cases k1 : k = (12, N) <;> simp_all)
  rw [e9] at O3
  refine ⟨H3, ?_, O3, z3.trans z2⟩
  refine ev_meth (by decide +kernel) (fun _ => Nat.le_of_ble_eq_true rfl) ?_
  rw [hN]
  refine w1 _ _ ?_
  refine ev_newLv (M := MX5_countOrdersWith) (pc := 59) dX5_countOrdersWith_59 hsz ?_
  rw [reg_W, show H1.2.1 = N from (congrArg Prod.fst z1).trans hN, hH2]
  exact w3
def pX5_countOrdersG (s0 s1 s2 : RS) (a1 : Int32) : Option (Int32 × Int64 × RS × RS) :=
  (pX5_countOrdersGh s0 s1 s2 a1).bind fun q => (pX5_countOrdersWithG s0 s1 s2 q.1 q.2.1 q.2.2).bind fun x => (pX5_countOrdersGt x.2.2.1 s1 x.2.2.2 x.2.1).bind fun y => some (x.1, y, x.2.2.1, x.2.2.2)
theorem pX5_countOrdersG_ok {l : Launch} {H : aH} {Ω : oT} {N b0 b1 b2 : Nat} {f0 f1 f2 : Nat → Option Nat} {s0 s1 s2 : RS} (hN : H.2.1 = N) (hO : wO H Ω N) (h0 : Ω (5, b0) = some (f0, s0)) (h1 : Ω (0, b1) = some (f1, s1)) (h2 : Ω (12, b2) = some (f2, s2)) (hq : f0 5 = some b2) (a1 : Int32) : ∀ x, pX5_countOrdersG s0 s1 s2 a1 = some x → ∃ H', aMet l 62 yX5_countOrders cX5_countOrders 3 (some .long) [.ref b0, .ref b1, .int a1] H (some (.long x.2.1)) H' ∧ wO H' (oU [(5, b0, (va_up (va_up f0 0 (some b1)) 5 (some N)), x.2.2.1), (12, N, fZ, x.2.2.2)] Ω) (N + 1) ∧ H'.2 = (N + 1, H.2.2 + x.1.toNatClampNeg) := by
  intro x hx
  obtain ⟨q, hqh, hx⟩ := Option.bind_eq_some_iff.mp hx
  obtain ⟨x1, hx1, hx⟩ := Option.bind_eq_some_iff.mp hx
  obtain ⟨y, hy, hx⟩ := Option.bind_eq_some_iff.mp hx
  cases hx
  have hn : b2 ≠ N := Nat.ne_of_lt (wO_ne hO h2 rfl)
  have m1 : oM Ω [(5, b0, f0, s0), (0, b1, f1, s1), (12, b2, f2, s2)] := ⟨h0, h1, h2, trivial⟩
  have e1 := wO_lay hO m1
  have w1 := pX5_countOrdersGh_w (l := l) (n0 := N) (S0 := H.2.2) (h := H) (b0 := b0) (b1 := b1) (b2 := b2) (f0 := f0) (f1 := f1) (f2 := f2) (wO_ok hO m1 (by simp [hn, Ne.symm hn])) hq s0 s1 s2 a1 q hqh
  rw [e1] at w1
  try dsimp only at w1
  obtain ⟨H2, mc, O2, z2⟩ := pX5_countOrdersWithG_ok (l := l) hN hO h0 h1 h2 hq q.1 q.2.1 q.2.2 x1 hx1
  have g1 : (oU [(5, b0, (va_up (va_up f0 0 (some b1)) 5 (some N)), x1.2.2.1), (12, N, fZ, x1.2.2.2)] Ω) (0, b1) = some (f1, s1) := by simp [oU, xk, h1, hn, Ne.symm hn]
  have g2 : (oU [(5, b0, (va_up (va_up f0 0 (some b1)) 5 (some N)), x1.2.2.1), (12, N, fZ, x1.2.2.2)] Ω) (12, b2) = some (f2, s2) := by simp [oU, xk, h2, hn, Ne.symm hn]
  have g3 : (oU [(5, b0, (va_up (va_up f0 0 (some b1)) 5 (some N)), x1.2.2.1), (12, N, fZ, x1.2.2.2)] Ω) (5, b0) = some ((va_up (va_up f0 0 (some b1)) 5 (some N)), x1.2.2.1) := by simp [oU, xk, hn, Ne.symm hn]
  have g4 : (oU [(5, b0, (va_up (va_up f0 0 (some b1)) 5 (some N)), x1.2.2.1), (12, N, fZ, x1.2.2.2)] Ω) (12, N) = some (fZ, x1.2.2.2) := by simp [oU, xk, hn, Ne.symm hn]
  have m3 : oM (oU [(5, b0, (va_up (va_up f0 0 (some b1)) 5 (some N)), x1.2.2.1), (12, N, fZ, x1.2.2.2)] Ω) [(5, b0, (va_up (va_up f0 0 (some b1)) 5 (some N)), x1.2.2.1), (0, b1, f1, s1), (12, N, fZ, x1.2.2.2)] := ⟨g3, g1, g4, trivial⟩
  have e3 := wO_lay O2 m3
  have w3 := pX5_countOrdersGt_w (l := l) (n0 := N) (S0 := H.2.2) (h := H2) (b0 := b0) (b1 := b1) (b2 := N) (f0 := (va_up (va_up f0 0 (some b1)) 5 (some N))) (f1 := f1) (f2 := fZ) (wO_ok O2 m3 (by simp [hn, Ne.symm hn])) x1.2.2.1 s1 x1.2.2.2 x1.2.1 y hy _ _ ⟨rfl, rfl⟩
  rw [e3] at w3
  try dsimp only at w3
  have e9 : oU [(5, b0, (va_up (va_up f0 0 (some b1)) 5 (some N)), x1.2.2.1), (12, N, fZ, x1.2.2.2)] Ω = oU [(5, b0, (va_up (va_up f0 0 (some b1)) 5 (some N)), x1.2.2.1), (12, N, fZ, x1.2.2.2)] Ω := by
    funext k
    simp only [oU, xk]
    try (by_cases k0 : k = (5, b0) <;> by_cases k1 : k = (12, N) <;> simp_all)
  rw [e9] at O2
  refine ⟨H2, ?_, O2, z2⟩
  refine ev_meth (by decide +kernel) (fun _ => Nat.le_of_ble_eq_true rfl) ?_
  rw [hN]
  refine w1 _ _ ?_
  refine ev_callV (M := MX5_countOrders) (pc := 5) (As := [.ref b1, .int q.1, .int q.2.1, .int q.2.2]) (st := []) cv_X5_35 (by decide) dX5_countOrders_5 (wO_cell (o := 0) hO h0 xc0_5).1 (wO_cell (o := 0) hO h0 xc0_5).2 rfl (Nat.le_of_ble_eq_true rfl) mc rfl ?_
  exact w3
def pX5_numberOfG (s0 s1 s2 s3 : RS) (a2 : Int32) : Option (Int32 × Int64 × RS × RS) :=
  (pX5_numberOfGh s0 s1 s2 s3 a2).bind fun q => (pX5_countOrdersWithG s0 s1 s2 q.2.1 q.2.2.1 q.2.2.2).bind fun x => (pX5_numberOfGt x.2.2.1 s1 x.2.2.2 s3 q.1 x.2.1).bind fun y => some (x.1, y.1, x.2.2.1, y.2)
theorem pX5_numberOfG_ok {l : Launch} {H : aH} {Ω : oT} {N b0 b1 b2 b3 : Nat} {f0 f1 f2 f3 : Nat → Option Nat} {s0 s1 s2 s3 : RS} (hN : H.2.1 = N) (hO : wO H Ω N) (h0 : Ω (5, b0) = some (f0, s0)) (h1 : Ω (0, b1) = some (f1, s1)) (h2 : Ω (12, b2) = some (f2, s2)) (h3 : Ω (7, b3) = some (f3, s3)) (hq : f0 5 = some b2) (a2 : Int32) : ∀ x, pX5_numberOfG s0 s1 s2 s3 a2 = some x → ∃ H', aMet l 63 yX5_numberOf cX5_numberOf 10 (some .long) [.ref b0, .ref b1, .ref (b3 + 16), .int a2] H (some (.long x.2.1)) H' ∧ wO H' (oU [(5, b0, (va_up (va_up f0 0 (some b1)) 5 (some N)), x.2.2.1), (12, N, fZ, x.2.2.2)] Ω) (N + 1) ∧ H'.2 = (N + 1, H.2.2 + x.1.toNatClampNeg) := by
  intro x hx
  obtain ⟨q, hqh, hx⟩ := Option.bind_eq_some_iff.mp hx
  obtain ⟨x1, hx1, hx⟩ := Option.bind_eq_some_iff.mp hx
  obtain ⟨y, hy, hx⟩ := Option.bind_eq_some_iff.mp hx
  cases hx
  have hn : b2 ≠ N := Nat.ne_of_lt (wO_ne hO h2 rfl)
  have m1 : oM Ω [(5, b0, f0, s0), (0, b1, f1, s1), (12, b2, f2, s2), (7, b3, f3, s3)] := ⟨h0, h1, h2, h3, trivial⟩
  have e1 := wO_lay hO m1
  have w1 := pX5_numberOfGh_w (l := l) (n0 := N) (S0 := H.2.2) (h := H) (b0 := b0) (b1 := b1) (b2 := b2) (b3 := b3) (f0 := f0) (f1 := f1) (f2 := f2) (f3 := f3) (wO_ok hO m1 (by simp [hn, Ne.symm hn])) hq s0 s1 s2 s3 a2 q hqh
  rw [e1] at w1
  try dsimp only at w1
  obtain ⟨H2, mc, O2, z2⟩ := pX5_countOrdersWithG_ok (l := l) hN hO h0 h1 h2 hq q.2.1 q.2.2.1 q.2.2.2 x1 hx1
  have g1 : (oU [(5, b0, (va_up (va_up f0 0 (some b1)) 5 (some N)), x1.2.2.1), (12, N, fZ, x1.2.2.2)] Ω) (0, b1) = some (f1, s1) := by simp [oU, xk, h1, hn, Ne.symm hn]
  have g2 : (oU [(5, b0, (va_up (va_up f0 0 (some b1)) 5 (some N)), x1.2.2.1), (12, N, fZ, x1.2.2.2)] Ω) (12, b2) = some (f2, s2) := by simp [oU, xk, h2, hn, Ne.symm hn]
  have g3 : (oU [(5, b0, (va_up (va_up f0 0 (some b1)) 5 (some N)), x1.2.2.1), (12, N, fZ, x1.2.2.2)] Ω) (7, b3) = some (f3, s3) := by simp [oU, xk, h3, hn, Ne.symm hn]
  have g4 : (oU [(5, b0, (va_up (va_up f0 0 (some b1)) 5 (some N)), x1.2.2.1), (12, N, fZ, x1.2.2.2)] Ω) (5, b0) = some ((va_up (va_up f0 0 (some b1)) 5 (some N)), x1.2.2.1) := by simp [oU, xk, hn, Ne.symm hn]
  have g5 : (oU [(5, b0, (va_up (va_up f0 0 (some b1)) 5 (some N)), x1.2.2.1), (12, N, fZ, x1.2.2.2)] Ω) (12, N) = some (fZ, x1.2.2.2) := by simp [oU, xk, hn, Ne.symm hn]
  have m3 : oM (oU [(5, b0, (va_up (va_up f0 0 (some b1)) 5 (some N)), x1.2.2.1), (12, N, fZ, x1.2.2.2)] Ω) [(5, b0, (va_up (va_up f0 0 (some b1)) 5 (some N)), x1.2.2.1), (0, b1, f1, s1), (12, N, fZ, x1.2.2.2), (7, b3, f3, s3)] := ⟨g4, g1, g5, g3, trivial⟩
  have e3 := wO_lay O2 m3
  have w3 := pX5_numberOfGt_w (l := l) (n0 := N) (S0 := H.2.2) (h := H2) (b0 := b0) (b1 := b1) (b2 := N) (b3 := b3) (f0 := (va_up (va_up f0 0 (some b1)) 5 (some N))) (f1 := f1) (f2 := fZ) (f3 := f3) (wO_ok O2 m3 (by simp [hn, Ne.symm hn])) rfl rfl x1.2.2.1 s1 x1.2.2.2 s3 q.1 x1.2.1 y hy _ _ ⟨rfl, rfl⟩
  rw [e3] at w3
  try dsimp only at w3
  have O3 := wO_up O2 (L := [(5, b0, (va_up (va_up f0 0 (some b1)) 5 (some N)), x1.2.2.1), (0, b1, f1, s1), (12, N, fZ, y.2), (7, b3, f3, s3)]) (oS_of m3 rfl)
  have u3 : oU [(5, b0, (va_up (va_up f0 0 (some b1)) 5 (some N)), x1.2.2.1), (0, b1, f1, s1), (12, N, fZ, y.2), (7, b3, f3, s3)] (oU [(5, b0, (va_up (va_up f0 0 (some b1)) 5 (some N)), x1.2.2.1), (12, N, fZ, x1.2.2.2)] Ω) = oU [(12, N, fZ, y.2)] (oU [(5, b0, (va_up (va_up f0 0 (some b1)) 5 (some N)), x1.2.2.1), (12, N, fZ, x1.2.2.2)] Ω) := (oU_s (oU_s (oU_k (oU_s rfl (by simp [oU, xk, h3, hn, Ne.symm hn]))) (by simp [oU, xk, h1, hn, Ne.symm hn])) (by simp [oU, xk, h0, hn, Ne.symm hn]))
  rw [u3] at O3
  generalize hH3 : xw [(5, b0, (va_up (va_up f0 0 (some b1)) 5 (some N)), x1.2.2.1), (0, b1, f1, s1), (12, N, fZ, y.2), (7, b3, f3, s3)] H2 = H3 at O3 w3
  have z3 : H3.2 = H2.2 := by rw [← hH3]; rfl
  have g6 : (oU [(12, N, fZ, y.2)] (oU [(5, b0, (va_up (va_up f0 0 (some b1)) 5 (some N)), x1.2.2.1), (12, N, fZ, x1.2.2.2)] Ω)) (0, b1) = some (f1, s1) := by simp [oU, xk, h1, hn, Ne.symm hn]
  have g7 : (oU [(12, N, fZ, y.2)] (oU [(5, b0, (va_up (va_up f0 0 (some b1)) 5 (some N)), x1.2.2.1), (12, N, fZ, x1.2.2.2)] Ω)) (12, b2) = some (f2, s2) := by simp [oU, xk, h2, hn, Ne.symm hn]
  have g8 : (oU [(12, N, fZ, y.2)] (oU [(5, b0, (va_up (va_up f0 0 (some b1)) 5 (some N)), x1.2.2.1), (12, N, fZ, x1.2.2.2)] Ω)) (7, b3) = some (f3, s3) := by simp [oU, xk, h3, hn, Ne.symm hn]
  have g9 : (oU [(12, N, fZ, y.2)] (oU [(5, b0, (va_up (va_up f0 0 (some b1)) 5 (some N)), x1.2.2.1), (12, N, fZ, x1.2.2.2)] Ω)) (5, b0) = some ((va_up (va_up f0 0 (some b1)) 5 (some N)), x1.2.2.1) := by simp [oU, xk, h0, hn, Ne.symm hn]
  have g10 : (oU [(12, N, fZ, y.2)] (oU [(5, b0, (va_up (va_up f0 0 (some b1)) 5 (some N)), x1.2.2.1), (12, N, fZ, x1.2.2.2)] Ω)) (12, N) = some (fZ, y.2) := by simp [oU, xk, hn, Ne.symm hn]
  have e9 : oU [(12, N, fZ, y.2)] (oU [(5, b0, (va_up (va_up f0 0 (some b1)) 5 (some N)), x1.2.2.1), (12, N, fZ, x1.2.2.2)] Ω) = oU [(5, b0, (va_up (va_up f0 0 (some b1)) 5 (some N)), x1.2.2.1), (12, N, fZ, y.2)] Ω := by
    funext k
    simp only [oU, xk]
    try (by_cases k0 : k = (5, b0) <;> by_cases k1 : k = (12, N) <;> simp_all)
  rw [e9] at O3
  refine ⟨H3, ?_, O3, z3.trans z2⟩
  refine ev_meth (by decide +kernel) (fun _ => Nat.le_of_ble_eq_true rfl) ?_
  rw [hN]
  refine w1 _ _ ?_
  refine ev_callV (M := MX5_numberOf) (pc := 42) (As := [.ref b1, .int q.2.1, .int q.2.2.1, .int q.2.2.2]) (st := []) cv_X5_35 (by decide) dX5_numberOf_42 (wO_cell (o := 0) hO h0 xc0_5).1 (wO_cell (o := 0) hO h0 xc0_5).2 rfl (Nat.le_of_ble_eq_true rfl) mc rfl ?_
  exact w3
def pX11_ordersG (s0 s1 s2 s3 s4 : RS) (a0 : Int32) : Option (Int32 × Int64 × RS × RS × RS) :=
  (pX11_ordersGh s0 s1 s2 s3 s4 a0).bind fun q => (pX5_countOrdersG s3 s2 s4 q).bind fun x => (pX11_ordersGt s0 x.2.1).bind fun y => some (x.1, y.1, y.2, x.2.2.1, x.2.2.2)
theorem pX11_ordersG_ok {l : Launch} {H : aH} {Ω : oT} {N b0 b2 b4 : Nat} {f0 f1 f2 f3 f4 : Nat → Option Nat} {s0 s1 s2 s3 s4 : RS} (hN : H.2.1 = N) (hO : wO H Ω N) (h0 : Ω (11, b0) = some (f0, s0)) (h1 : Ω (7, b0 + 8) = some (f1, s1)) (h2 : Ω (0, b2) = some (f2, s2)) (h3 : Ω (5, b0 + 34) = some (f3, s3)) (h4 : Ω (12, b4) = some (f4, s4)) (hq1 : f1 0 = some b2) (hq3 : f3 5 = some b4) (a0 : Int32) : ∀ x, pX11_ordersG s0 s1 s2 s3 s4 a0 = some x → ∃ H', aMet l 64 yX11_orders cX11_orders 3 (some .long) [.ref b0, .int a0] H (some (.long x.2.1)) H' ∧ wO H' (oU [(11, b0, f0, x.2.2.1), (5, b0 + 34, (va_up (va_up f3 0 (some b2)) 5 (some N)), x.2.2.2.1), (12, N, fZ, x.2.2.2.2)] Ω) (N + 1) ∧ H'.2 = (N + 1, H.2.2 + x.1.toNatClampNeg) := by
  intro x hx
  obtain ⟨q, hqh, hx⟩ := Option.bind_eq_some_iff.mp hx
  obtain ⟨x1, hx1, hx⟩ := Option.bind_eq_some_iff.mp hx
  obtain ⟨y, hy, hx⟩ := Option.bind_eq_some_iff.mp hx
  cases hx
  have hn : b4 ≠ N := Nat.ne_of_lt (wO_ne hO h4 rfl)
  have m1 : oM Ω [(11, b0, f0, s0), (7, b0 + 8, f1, s1), (0, b2, f2, s2), (5, b0 + 34, f3, s3), (12, b4, f4, s4)] := ⟨h0, h1, h2, h3, h4, trivial⟩
  have e1 := wO_lay hO m1
  have w1 := pX11_ordersGh_w (l := l) (n0 := N) (S0 := H.2.2) (h := H) (b0 := b0) (b2 := b2) (b4 := b4) (f0 := f0) (f1 := f1) (f2 := f2) (f3 := f3) (f4 := f4) (wO_ok hO m1 (by simp [hn, Ne.symm hn])) hq1 hq3 s0 s1 s2 s3 s4 a0 q hqh
  rw [e1] at w1
  try dsimp only at w1
  obtain ⟨H2, mc, O2, z2⟩ := pX5_countOrdersG_ok (l := l) hN hO h3 h2 h4 hq3 q x1 hx1
  have g1 : (oU [(5, b0 + 34, (va_up (va_up f3 0 (some b2)) 5 (some N)), x1.2.2.1), (12, N, fZ, x1.2.2.2)] Ω) (11, b0) = some (f0, s0) := by simp [oU, xk, h0, hn, Ne.symm hn]
  have g2 : (oU [(5, b0 + 34, (va_up (va_up f3 0 (some b2)) 5 (some N)), x1.2.2.1), (12, N, fZ, x1.2.2.2)] Ω) (7, b0 + 8) = some (f1, s1) := by simp [oU, xk, h1, hn, Ne.symm hn]
  have g3 : (oU [(5, b0 + 34, (va_up (va_up f3 0 (some b2)) 5 (some N)), x1.2.2.1), (12, N, fZ, x1.2.2.2)] Ω) (0, b2) = some (f2, s2) := by simp [oU, xk, h2, hn, Ne.symm hn]
  have g4 : (oU [(5, b0 + 34, (va_up (va_up f3 0 (some b2)) 5 (some N)), x1.2.2.1), (12, N, fZ, x1.2.2.2)] Ω) (12, b4) = some (f4, s4) := by simp [oU, xk, h4, hn, Ne.symm hn]
  have g5 : (oU [(5, b0 + 34, (va_up (va_up f3 0 (some b2)) 5 (some N)), x1.2.2.1), (12, N, fZ, x1.2.2.2)] Ω) (5, b0 + 34) = some ((va_up (va_up f3 0 (some b2)) 5 (some N)), x1.2.2.1) := by simp [oU, xk, hn, Ne.symm hn]
  have g6 : (oU [(5, b0 + 34, (va_up (va_up f3 0 (some b2)) 5 (some N)), x1.2.2.1), (12, N, fZ, x1.2.2.2)] Ω) (12, N) = some (fZ, x1.2.2.2) := by simp [oU, xk, hn, Ne.symm hn]
  have m3 : oM (oU [(5, b0 + 34, (va_up (va_up f3 0 (some b2)) 5 (some N)), x1.2.2.1), (12, N, fZ, x1.2.2.2)] Ω) [(11, b0, f0, s0)] := ⟨g1, trivial⟩
  have e3 := wO_lay O2 m3
  have w3 := pX11_ordersGt_w (l := l) (n0 := N) (S0 := H.2.2) (h := H2) (b0 := b0) (f0 := f0) (wO_ok O2 m3 (by simp [hn, Ne.symm hn])) s0 x1.2.1 y hy _ _ ⟨rfl, rfl⟩
  rw [e3] at w3
  try dsimp only at w3
  have O3 := wO_up O2 (L := [(11, b0, f0, y.2)]) (oS_of m3 rfl)
  have u3 : oU [(11, b0, f0, y.2)] (oU [(5, b0 + 34, (va_up (va_up f3 0 (some b2)) 5 (some N)), x1.2.2.1), (12, N, fZ, x1.2.2.2)] Ω) = oU [(11, b0, f0, y.2)] (oU [(5, b0 + 34, (va_up (va_up f3 0 (some b2)) 5 (some N)), x1.2.2.1), (12, N, fZ, x1.2.2.2)] Ω) := (oU_k rfl)
  rw [u3] at O3
  generalize hH3 : xw [(11, b0, f0, y.2)] H2 = H3 at O3 w3
  have z3 : H3.2 = H2.2 := by rw [← hH3]; rfl
  have g7 : (oU [(11, b0, f0, y.2)] (oU [(5, b0 + 34, (va_up (va_up f3 0 (some b2)) 5 (some N)), x1.2.2.1), (12, N, fZ, x1.2.2.2)] Ω)) (7, b0 + 8) = some (f1, s1) := by simp [oU, xk, h1, hn, Ne.symm hn]
  have g8 : (oU [(11, b0, f0, y.2)] (oU [(5, b0 + 34, (va_up (va_up f3 0 (some b2)) 5 (some N)), x1.2.2.1), (12, N, fZ, x1.2.2.2)] Ω)) (0, b2) = some (f2, s2) := by simp [oU, xk, h2, hn, Ne.symm hn]
  have g9 : (oU [(11, b0, f0, y.2)] (oU [(5, b0 + 34, (va_up (va_up f3 0 (some b2)) 5 (some N)), x1.2.2.1), (12, N, fZ, x1.2.2.2)] Ω)) (12, b4) = some (f4, s4) := by simp [oU, xk, h4, hn, Ne.symm hn]
  have g10 : (oU [(11, b0, f0, y.2)] (oU [(5, b0 + 34, (va_up (va_up f3 0 (some b2)) 5 (some N)), x1.2.2.1), (12, N, fZ, x1.2.2.2)] Ω)) (5, b0 + 34) = some ((va_up (va_up f3 0 (some b2)) 5 (some N)), x1.2.2.1) := by simp [oU, xk, h3, hn, Ne.symm hn]
  have g11 : (oU [(11, b0, f0, y.2)] (oU [(5, b0 + 34, (va_up (va_up f3 0 (some b2)) 5 (some N)), x1.2.2.1), (12, N, fZ, x1.2.2.2)] Ω)) (12, N) = some (fZ, x1.2.2.2) := by simp [oU, xk, hn, Ne.symm hn]
  have g12 : (oU [(11, b0, f0, y.2)] (oU [(5, b0 + 34, (va_up (va_up f3 0 (some b2)) 5 (some N)), x1.2.2.1), (12, N, fZ, x1.2.2.2)] Ω)) (11, b0) = some (f0, y.2) := by simp [oU, xk, hn, Ne.symm hn]
  have e9 : oU [(11, b0, f0, y.2)] (oU [(5, b0 + 34, (va_up (va_up f3 0 (some b2)) 5 (some N)), x1.2.2.1), (12, N, fZ, x1.2.2.2)] Ω) = oU [(11, b0, f0, y.2), (5, b0 + 34, (va_up (va_up f3 0 (some b2)) 5 (some N)), x1.2.2.1), (12, N, fZ, x1.2.2.2)] Ω := by
    funext k
    simp only [oU, xk]
    try (by_cases k0 : k = (11, b0) <;> by_cases k1 : k = (5, b0 + 34) <;> by_cases k2 : k = (12, N) <;> simp_all)
  rw [e9] at O3
  refine ⟨H3, ?_, O3, z3.trans z2⟩
  refine ev_meth (by decide +kernel) (fun _ => Nat.le_of_ble_eq_true rfl) ?_
  rw [hN]
  refine w1 _ _ ?_
  refine ev_callV (M := MX11_orders) (pc := 30) (As := [.ref b2, .int q]) (st := [.ref b0]) cv_X11_321 (by decide) dX11_orders_30 (wO_cell (o := 0) hO h3 xc0_5).1 (wO_cell (o := 0) hO h3 xc0_5).2 rfl (Nat.le_of_ble_eq_true rfl) mc rfl ?_
  exact w3
def pX11_aheadG (s0 s1 s2 s3 s4 : RS) (a0 a1 a2 : Int32) : Option (Int32 × Bool × RS × RS × RS) :=
  (pX11_aheadGh s0 s1 s2 s3 s4 a0 a1 a2).bind fun q => (pX5_countOrdersWithG s3 s2 s4 q.2.1 q.2.2.1 q.2.2.2).bind fun x => (pX11_aheadGt s0 s1 s2 x.2.2.1 x.2.2.2 q.1 x.2.1).bind fun y => some (x.1, y.1, y.2.1, y.2.2.1, y.2.2.2)
theorem pX11_aheadG_ok {l : Launch} {H : aH} {Ω : oT} {N b0 b2 b4 : Nat} {f0 f1 f2 f3 f4 : Nat → Option Nat} {s0 s1 s2 s3 s4 : RS} (hN : H.2.1 = N) (hO : wO H Ω N) (h0 : Ω (11, b0) = some (f0, s0)) (h1 : Ω (7, b0 + 8) = some (f1, s1)) (h2 : Ω (0, b2) = some (f2, s2)) (h3 : Ω (5, b0 + 34) = some (f3, s3)) (h4 : Ω (12, b4) = some (f4, s4)) (hq1 : f1 0 = some b2) (hq3 : f3 5 = some b4) (a0 a1 a2 : Int32) : ∀ x, pX11_aheadG s0 s1 s2 s3 s4 a0 a1 a2 = some x → ∃ H', aMet l 64 yX11_ahead cX11_ahead 5 (some .boolean) [.ref b0, .int a0, .int a1, .int a2] H (some (.int (b2i x.2.1))) H' ∧ wO H' (oU [(11, b0, f0, x.2.2.1), (5, b0 + 34, (va_up (va_up (va_up f3 0 (some b2)) 5 (some N)) 0 (some b2)), x.2.2.2.1), (12, N, fZ, x.2.2.2.2)] Ω) (N + 1) ∧ H'.2 = (N + 1, H.2.2 + x.1.toNatClampNeg) := by
  intro x hx
  obtain ⟨q, hqh, hx⟩ := Option.bind_eq_some_iff.mp hx
  obtain ⟨x1, hx1, hx⟩ := Option.bind_eq_some_iff.mp hx
  obtain ⟨y, hy, hx⟩ := Option.bind_eq_some_iff.mp hx
  cases hx
  have hn : b4 ≠ N := Nat.ne_of_lt (wO_ne hO h4 rfl)
  have m1 : oM Ω [(11, b0, f0, s0), (7, b0 + 8, f1, s1), (0, b2, f2, s2), (5, b0 + 34, f3, s3), (12, b4, f4, s4)] := ⟨h0, h1, h2, h3, h4, trivial⟩
  have e1 := wO_lay hO m1
  have w1 := pX11_aheadGh_w (l := l) (n0 := N) (S0 := H.2.2) (h := H) (b0 := b0) (b2 := b2) (b4 := b4) (f0 := f0) (f1 := f1) (f2 := f2) (f3 := f3) (f4 := f4) (wO_ok hO m1 (by simp [hn, Ne.symm hn])) hq1 hq3 s0 s1 s2 s3 s4 a0 a1 a2 q hqh
  rw [e1] at w1
  try dsimp only at w1
  obtain ⟨H2, mc, O2, z2⟩ := pX5_countOrdersWithG_ok (l := l) hN hO h3 h2 h4 hq3 q.2.1 q.2.2.1 q.2.2.2 x1 hx1
  have g1 : (oU [(5, b0 + 34, (va_up (va_up f3 0 (some b2)) 5 (some N)), x1.2.2.1), (12, N, fZ, x1.2.2.2)] Ω) (11, b0) = some (f0, s0) := by simp [oU, xk, h0, hn, Ne.symm hn]
  have g2 : (oU [(5, b0 + 34, (va_up (va_up f3 0 (some b2)) 5 (some N)), x1.2.2.1), (12, N, fZ, x1.2.2.2)] Ω) (7, b0 + 8) = some (f1, s1) := by simp [oU, xk, h1, hn, Ne.symm hn]
  have g3 : (oU [(5, b0 + 34, (va_up (va_up f3 0 (some b2)) 5 (some N)), x1.2.2.1), (12, N, fZ, x1.2.2.2)] Ω) (0, b2) = some (f2, s2) := by simp [oU, xk, h2, hn, Ne.symm hn]
  have g4 : (oU [(5, b0 + 34, (va_up (va_up f3 0 (some b2)) 5 (some N)), x1.2.2.1), (12, N, fZ, x1.2.2.2)] Ω) (12, b4) = some (f4, s4) := by simp [oU, xk, h4, hn, Ne.symm hn]
  have g5 : (oU [(5, b0 + 34, (va_up (va_up f3 0 (some b2)) 5 (some N)), x1.2.2.1), (12, N, fZ, x1.2.2.2)] Ω) (5, b0 + 34) = some ((va_up (va_up f3 0 (some b2)) 5 (some N)), x1.2.2.1) := by simp [oU, xk, hn, Ne.symm hn]
  have g6 : (oU [(5, b0 + 34, (va_up (va_up f3 0 (some b2)) 5 (some N)), x1.2.2.1), (12, N, fZ, x1.2.2.2)] Ω) (12, N) = some (fZ, x1.2.2.2) := by simp [oU, xk, hn, Ne.symm hn]
  have m3 : oM (oU [(5, b0 + 34, (va_up (va_up f3 0 (some b2)) 5 (some N)), x1.2.2.1), (12, N, fZ, x1.2.2.2)] Ω) [(11, b0, f0, s0), (7, b0 + 8, f1, s1), (0, b2, f2, s2), (5, b0 + 34, (va_up (va_up f3 0 (some b2)) 5 (some N)), x1.2.2.1), (12, N, fZ, x1.2.2.2)] := ⟨g1, g2, g3, g5, g6, trivial⟩
  have e3 := wO_lay O2 m3
  have w3 := pX11_aheadGt_w (l := l) (n0 := N) (S0 := H.2.2) (h := H2) (b0 := b0) (b2 := b2) (b4 := N) (f0 := f0) (f1 := f1) (f2 := f2) (f3 := (va_up (va_up f3 0 (some b2)) 5 (some N))) (f4 := fZ) (wO_ok O2 m3 (by simp [hn, Ne.symm hn])) hq1 rfl rfl s0 s1 s2 x1.2.2.1 x1.2.2.2 q.1 x1.2.1 y hy _ _ ⟨rfl, rfl⟩
  rw [e3] at w3
  try dsimp only at w3
  have O3 := wO_up O2 (L := [(11, b0, f0, y.2.1), (7, b0 + 8, f1, s1), (0, b2, f2, s2), (5, b0 + 34, (va_up (va_up (va_up f3 0 (some b2)) 5 (some N)) 0 (some b2)), y.2.2.1), (12, N, fZ, y.2.2.2)]) (oS_of m3 rfl)
  have u3 : oU [(11, b0, f0, y.2.1), (7, b0 + 8, f1, s1), (0, b2, f2, s2), (5, b0 + 34, (va_up (va_up (va_up f3 0 (some b2)) 5 (some N)) 0 (some b2)), y.2.2.1), (12, N, fZ, y.2.2.2)] (oU [(5, b0 + 34, (va_up (va_up f3 0 (some b2)) 5 (some N)), x1.2.2.1), (12, N, fZ, x1.2.2.2)] Ω) = oU [(11, b0, f0, y.2.1), (5, b0 + 34, (va_up (va_up (va_up f3 0 (some b2)) 5 (some N)) 0 (some b2)), y.2.2.1), (12, N, fZ, y.2.2.2)] (oU [(5, b0 + 34, (va_up (va_up f3 0 (some b2)) 5 (some N)), x1.2.2.1), (12, N, fZ, x1.2.2.2)] Ω) := (oU_k (oU_s (oU_s (oU_k (oU_k rfl)) (by simp [oU, xk, h2, hn, Ne.symm hn])) (by simp [oU, xk, h1, hn, Ne.symm hn])))
  rw [u3] at O3
  generalize hH3 : xw [(11, b0, f0, y.2.1), (7, b0 + 8, f1, s1), (0, b2, f2, s2), (5, b0 + 34, (va_up (va_up (va_up f3 0 (some b2)) 5 (some N)) 0 (some b2)), y.2.2.1), (12, N, fZ, y.2.2.2)] H2 = H3 at O3 w3
  have z3 : H3.2 = H2.2 := by rw [← hH3]; rfl
  have g7 : (oU [(11, b0, f0, y.2.1), (5, b0 + 34, (va_up (va_up (va_up f3 0 (some b2)) 5 (some N)) 0 (some b2)), y.2.2.1), (12, N, fZ, y.2.2.2)] (oU [(5, b0 + 34, (va_up (va_up f3 0 (some b2)) 5 (some N)), x1.2.2.1), (12, N, fZ, x1.2.2.2)] Ω)) (7, b0 + 8) = some (f1, s1) := by simp [oU, xk, h1, hn, Ne.symm hn]
  have g8 : (oU [(11, b0, f0, y.2.1), (5, b0 + 34, (va_up (va_up (va_up f3 0 (some b2)) 5 (some N)) 0 (some b2)), y.2.2.1), (12, N, fZ, y.2.2.2)] (oU [(5, b0 + 34, (va_up (va_up f3 0 (some b2)) 5 (some N)), x1.2.2.1), (12, N, fZ, x1.2.2.2)] Ω)) (0, b2) = some (f2, s2) := by simp [oU, xk, h2, hn, Ne.symm hn]
  have g9 : (oU [(11, b0, f0, y.2.1), (5, b0 + 34, (va_up (va_up (va_up f3 0 (some b2)) 5 (some N)) 0 (some b2)), y.2.2.1), (12, N, fZ, y.2.2.2)] (oU [(5, b0 + 34, (va_up (va_up f3 0 (some b2)) 5 (some N)), x1.2.2.1), (12, N, fZ, x1.2.2.2)] Ω)) (12, b4) = some (f4, s4) := by simp [oU, xk, h4, hn, Ne.symm hn]
  have g10 : (oU [(11, b0, f0, y.2.1), (5, b0 + 34, (va_up (va_up (va_up f3 0 (some b2)) 5 (some N)) 0 (some b2)), y.2.2.1), (12, N, fZ, y.2.2.2)] (oU [(5, b0 + 34, (va_up (va_up f3 0 (some b2)) 5 (some N)), x1.2.2.1), (12, N, fZ, x1.2.2.2)] Ω)) (11, b0) = some (f0, y.2.1) := by simp [oU, xk, hn, Ne.symm hn]
  have g11 : (oU [(11, b0, f0, y.2.1), (5, b0 + 34, (va_up (va_up (va_up f3 0 (some b2)) 5 (some N)) 0 (some b2)), y.2.2.1), (12, N, fZ, y.2.2.2)] (oU [(5, b0 + 34, (va_up (va_up f3 0 (some b2)) 5 (some N)), x1.2.2.1), (12, N, fZ, x1.2.2.2)] Ω)) (5, b0 + 34) = some ((va_up (va_up (va_up f3 0 (some b2)) 5 (some N)) 0 (some b2)), y.2.2.1) := by simp [oU, xk, hn, Ne.symm hn]
  have g12 : (oU [(11, b0, f0, y.2.1), (5, b0 + 34, (va_up (va_up (va_up f3 0 (some b2)) 5 (some N)) 0 (some b2)), y.2.2.1), (12, N, fZ, y.2.2.2)] (oU [(5, b0 + 34, (va_up (va_up f3 0 (some b2)) 5 (some N)), x1.2.2.1), (12, N, fZ, x1.2.2.2)] Ω)) (12, N) = some (fZ, y.2.2.2) := by simp [oU, xk, hn, Ne.symm hn]
  have e9 : oU [(11, b0, f0, y.2.1), (5, b0 + 34, (va_up (va_up (va_up f3 0 (some b2)) 5 (some N)) 0 (some b2)), y.2.2.1), (12, N, fZ, y.2.2.2)] (oU [(5, b0 + 34, (va_up (va_up f3 0 (some b2)) 5 (some N)), x1.2.2.1), (12, N, fZ, x1.2.2.2)] Ω) = oU [(11, b0, f0, y.2.1), (5, b0 + 34, (va_up (va_up (va_up f3 0 (some b2)) 5 (some N)) 0 (some b2)), y.2.2.1), (12, N, fZ, y.2.2.2)] Ω := by
    funext k
    simp only [oU, xk]
    try (by_cases k0 : k = (11, b0) <;> by_cases k1 : k = (5, b0 + 34) <;> by_cases k2 : k = (12, N) <;> simp_all)
  rw [e9] at O3
  refine ⟨H3, ?_, O3, z3.trans z2⟩
  refine ev_meth (by decide +kernel) (fun _ => Nat.le_of_ble_eq_true rfl) ?_
  rw [hN]
  refine w1 _ _ ?_
  refine ev_callV (M := MX11_ahead) (pc := 95) (As := [.ref b2, .int q.2.1, .int q.2.2.1, .int q.2.2.2]) (st := [.ref b0]) cv_X11_325 (by decide) dX11_ahead_95 (wO_cell (o := 0) hO h3 xc0_5).1 (wO_cell (o := 0) hO h3 xc0_5).2 rfl (Nat.le_of_ble_eq_true rfl) mc rfl ?_
  exact w3
def pX11_orderedG (s0 s1 s2 s3 s4 : RS) (a0 : Int32) (a1 : Int64) : Option (Int32 × Int32 × RS × RS × RS × RS) :=
  (pX11_orderedGh s0 s1 s2 s3 s4 a0 a1).bind fun q => (pX5_countOrdersG s3 s2 s4 q.2.2).bind fun x => (pX11_orderedGt s0 s1 s2 x.2.2.1 x.2.2.2 q.1 q.2.1 x.2.1).bind fun y => some (x.1, y.1, y.2.1, y.2.2.1, x.2.2.1, y.2.2.2)
theorem pX11_orderedG_ok {l : Launch} {H : aH} {Ω : oT} {N b0 b2 b4 : Nat} {f0 f1 f2 f3 f4 : Nat → Option Nat} {s0 s1 s2 s3 s4 : RS} (hN : H.2.1 = N) (hO : wO H Ω N) (h0 : Ω (11, b0) = some (f0, s0)) (h1 : Ω (7, b0 + 8) = some (f1, s1)) (h2 : Ω (0, b2) = some (f2, s2)) (h3 : Ω (5, b0 + 34) = some (f3, s3)) (h4 : Ω (12, b4) = some (f4, s4)) (hq1 : f1 0 = some b2) (hq3 : f3 5 = some b4) (a0 : Int32) (a1 : Int64) : ∀ x, pX11_orderedG s0 s1 s2 s3 s4 a0 a1 = some x → ∃ H', aMet l 64 yX11_ordered cX11_ordered 5 (some .int) [.ref b0, .int a0, .long a1] H (some (.int x.2.1)) H' ∧ wO H' (oU [(11, b0, f0, x.2.2.1), (7, b0 + 8, f1, x.2.2.2.1), (5, b0 + 34, (va_up (va_up f3 0 (some b2)) 5 (some N)), x.2.2.2.2.1), (12, N, fZ, x.2.2.2.2.2)] Ω) (N + 1) ∧ H'.2 = (N + 1, H.2.2 + x.1.toNatClampNeg) := by
  intro x hx
  obtain ⟨q, hqh, hx⟩ := Option.bind_eq_some_iff.mp hx
  obtain ⟨x1, hx1, hx⟩ := Option.bind_eq_some_iff.mp hx
  obtain ⟨y, hy, hx⟩ := Option.bind_eq_some_iff.mp hx
  cases hx
  have hn : b4 ≠ N := Nat.ne_of_lt (wO_ne hO h4 rfl)
  have m1 : oM Ω [(11, b0, f0, s0), (7, b0 + 8, f1, s1), (0, b2, f2, s2), (5, b0 + 34, f3, s3), (12, b4, f4, s4)] := ⟨h0, h1, h2, h3, h4, trivial⟩
  have e1 := wO_lay hO m1
  have w1 := pX11_orderedGh_w (l := l) (n0 := N) (S0 := H.2.2) (h := H) (b0 := b0) (b2 := b2) (b4 := b4) (f0 := f0) (f1 := f1) (f2 := f2) (f3 := f3) (f4 := f4) (wO_ok hO m1 (by simp [hn, Ne.symm hn])) hq1 hq3 s0 s1 s2 s3 s4 a0 a1 q hqh
  rw [e1] at w1
  try dsimp only at w1
  obtain ⟨H2, mc, O2, z2⟩ := pX5_countOrdersG_ok (l := l) hN hO h3 h2 h4 hq3 q.2.2 x1 hx1
  have g1 : (oU [(5, b0 + 34, (va_up (va_up f3 0 (some b2)) 5 (some N)), x1.2.2.1), (12, N, fZ, x1.2.2.2)] Ω) (11, b0) = some (f0, s0) := by simp [oU, xk, h0, hn, Ne.symm hn]
  have g2 : (oU [(5, b0 + 34, (va_up (va_up f3 0 (some b2)) 5 (some N)), x1.2.2.1), (12, N, fZ, x1.2.2.2)] Ω) (7, b0 + 8) = some (f1, s1) := by simp [oU, xk, h1, hn, Ne.symm hn]
  have g3 : (oU [(5, b0 + 34, (va_up (va_up f3 0 (some b2)) 5 (some N)), x1.2.2.1), (12, N, fZ, x1.2.2.2)] Ω) (0, b2) = some (f2, s2) := by simp [oU, xk, h2, hn, Ne.symm hn]
  have g4 : (oU [(5, b0 + 34, (va_up (va_up f3 0 (some b2)) 5 (some N)), x1.2.2.1), (12, N, fZ, x1.2.2.2)] Ω) (12, b4) = some (f4, s4) := by simp [oU, xk, h4, hn, Ne.symm hn]
  have g5 : (oU [(5, b0 + 34, (va_up (va_up f3 0 (some b2)) 5 (some N)), x1.2.2.1), (12, N, fZ, x1.2.2.2)] Ω) (5, b0 + 34) = some ((va_up (va_up f3 0 (some b2)) 5 (some N)), x1.2.2.1) := by simp [oU, xk, hn, Ne.symm hn]
  have g6 : (oU [(5, b0 + 34, (va_up (va_up f3 0 (some b2)) 5 (some N)), x1.2.2.1), (12, N, fZ, x1.2.2.2)] Ω) (12, N) = some (fZ, x1.2.2.2) := by simp [oU, xk, hn, Ne.symm hn]
  have m3 : oM (oU [(5, b0 + 34, (va_up (va_up f3 0 (some b2)) 5 (some N)), x1.2.2.1), (12, N, fZ, x1.2.2.2)] Ω) [(11, b0, f0, s0), (7, b0 + 8, f1, s1), (0, b2, f2, s2), (5, b0 + 34, (va_up (va_up f3 0 (some b2)) 5 (some N)), x1.2.2.1), (12, N, fZ, x1.2.2.2)] := ⟨g1, g2, g3, g5, g6, trivial⟩
  have e3 := wO_lay O2 m3
  have w3 := pX11_orderedGt_w (l := l) (n0 := N) (S0 := H.2.2) (h := H2) (b0 := b0) (b2 := b2) (b4 := N) (f0 := f0) (f1 := f1) (f2 := f2) (f3 := (va_up (va_up f3 0 (some b2)) 5 (some N))) (f4 := fZ) (wO_ok O2 m3 (by simp [hn, Ne.symm hn])) hq1 rfl rfl s0 s1 s2 x1.2.2.1 x1.2.2.2 q.1 q.2.1 x1.2.1 y hy _ _ ⟨rfl, rfl⟩
  rw [e3] at w3
  try dsimp only at w3
  have O3 := wO_up O2 (L := [(11, b0, f0, y.2.1), (7, b0 + 8, f1, y.2.2.1), (0, b2, f2, s2), (5, b0 + 34, (va_up (va_up f3 0 (some b2)) 5 (some N)), x1.2.2.1), (12, N, fZ, y.2.2.2)]) (oS_of m3 rfl)
  have u3 : oU [(11, b0, f0, y.2.1), (7, b0 + 8, f1, y.2.2.1), (0, b2, f2, s2), (5, b0 + 34, (va_up (va_up f3 0 (some b2)) 5 (some N)), x1.2.2.1), (12, N, fZ, y.2.2.2)] (oU [(5, b0 + 34, (va_up (va_up f3 0 (some b2)) 5 (some N)), x1.2.2.1), (12, N, fZ, x1.2.2.2)] Ω) = oU [(11, b0, f0, y.2.1), (7, b0 + 8, f1, y.2.2.1), (12, N, fZ, y.2.2.2)] (oU [(5, b0 + 34, (va_up (va_up f3 0 (some b2)) 5 (some N)), x1.2.2.1), (12, N, fZ, x1.2.2.2)] Ω) := (oU_k (oU_k (oU_s (oU_s (oU_k rfl) (by simp [oU, xk, h3, hn, Ne.symm hn])) (by simp [oU, xk, h2, hn, Ne.symm hn]))))
  rw [u3] at O3
  generalize hH3 : xw [(11, b0, f0, y.2.1), (7, b0 + 8, f1, y.2.2.1), (0, b2, f2, s2), (5, b0 + 34, (va_up (va_up f3 0 (some b2)) 5 (some N)), x1.2.2.1), (12, N, fZ, y.2.2.2)] H2 = H3 at O3 w3
  have z3 : H3.2 = H2.2 := by rw [← hH3]; rfl
  have g7 : (oU [(11, b0, f0, y.2.1), (7, b0 + 8, f1, y.2.2.1), (12, N, fZ, y.2.2.2)] (oU [(5, b0 + 34, (va_up (va_up f3 0 (some b2)) 5 (some N)), x1.2.2.1), (12, N, fZ, x1.2.2.2)] Ω)) (0, b2) = some (f2, s2) := by simp [oU, xk, h2, hn, Ne.symm hn]
  have g8 : (oU [(11, b0, f0, y.2.1), (7, b0 + 8, f1, y.2.2.1), (12, N, fZ, y.2.2.2)] (oU [(5, b0 + 34, (va_up (va_up f3 0 (some b2)) 5 (some N)), x1.2.2.1), (12, N, fZ, x1.2.2.2)] Ω)) (12, b4) = some (f4, s4) := by simp [oU, xk, h4, hn, Ne.symm hn]
  have g9 : (oU [(11, b0, f0, y.2.1), (7, b0 + 8, f1, y.2.2.1), (12, N, fZ, y.2.2.2)] (oU [(5, b0 + 34, (va_up (va_up f3 0 (some b2)) 5 (some N)), x1.2.2.1), (12, N, fZ, x1.2.2.2)] Ω)) (5, b0 + 34) = some ((va_up (va_up f3 0 (some b2)) 5 (some N)), x1.2.2.1) := by simp [oU, xk, h3, hn, Ne.symm hn]
  have g10 : (oU [(11, b0, f0, y.2.1), (7, b0 + 8, f1, y.2.2.1), (12, N, fZ, y.2.2.2)] (oU [(5, b0 + 34, (va_up (va_up f3 0 (some b2)) 5 (some N)), x1.2.2.1), (12, N, fZ, x1.2.2.2)] Ω)) (11, b0) = some (f0, y.2.1) := by simp [oU, xk, hn, Ne.symm hn]
  have g11 : (oU [(11, b0, f0, y.2.1), (7, b0 + 8, f1, y.2.2.1), (12, N, fZ, y.2.2.2)] (oU [(5, b0 + 34, (va_up (va_up f3 0 (some b2)) 5 (some N)), x1.2.2.1), (12, N, fZ, x1.2.2.2)] Ω)) (7, b0 + 8) = some (f1, y.2.2.1) := by simp [oU, xk, hn, Ne.symm hn]
  have g12 : (oU [(11, b0, f0, y.2.1), (7, b0 + 8, f1, y.2.2.1), (12, N, fZ, y.2.2.2)] (oU [(5, b0 + 34, (va_up (va_up f3 0 (some b2)) 5 (some N)), x1.2.2.1), (12, N, fZ, x1.2.2.2)] Ω)) (12, N) = some (fZ, y.2.2.2) := by simp [oU, xk, hn, Ne.symm hn]
  have e9 : oU [(11, b0, f0, y.2.1), (7, b0 + 8, f1, y.2.2.1), (12, N, fZ, y.2.2.2)] (oU [(5, b0 + 34, (va_up (va_up f3 0 (some b2)) 5 (some N)), x1.2.2.1), (12, N, fZ, x1.2.2.2)] Ω) = oU [(11, b0, f0, y.2.1), (7, b0 + 8, f1, y.2.2.1), (5, b0 + 34, (va_up (va_up f3 0 (some b2)) 5 (some N)), x1.2.2.1), (12, N, fZ, y.2.2.2)] Ω := by
    funext k
    simp only [oU, xk]
    try (by_cases k0 : k = (11, b0) <;> by_cases k1 : k = (7, b0 + 8) <;> by_cases k2 : k = (5, b0 + 34) <;> by_cases k3 : k = (12, N) <;> simp_all)
  rw [e9] at O3
  refine ⟨H3, ?_, O3, z3.trans z2⟩
  refine ev_meth (by decide +kernel) (fun _ => Nat.le_of_ble_eq_true rfl) ?_
  rw [hN]
  refine w1 _ _ ?_
  refine ev_callV (M := MX11_ordered) (pc := 38) (As := [.ref b2, .int q.2.2]) (st := [.long q.2.1]) cv_X11_321 (by decide) dX11_ordered_38 (wO_cell (o := 0) hO h3 xc0_5).1 (wO_cell (o := 0) hO h3 xc0_5).2 rfl (Nat.le_of_ble_eq_true rfl) mc rfl ?_
  exact w3
def pX11_numberG (s0 s1 s2 s3 s4 : RS) : Option (Int32 × Int64 × RS × RS × RS) :=
  (pX11_numberGh s0 s1 s2 s3 s4).bind fun q => (pX5_numberOfG s3 s2 s4 s1 q).bind fun x => (pX11_numberGt s0 x.2.1).bind fun y => some (x.1, y.1, y.2, x.2.2.1, x.2.2.2)
theorem pX11_numberG_ok {l : Launch} {H : aH} {Ω : oT} {N b0 b2 b4 : Nat} {f0 f1 f2 f3 f4 : Nat → Option Nat} {s0 s1 s2 s3 s4 : RS} (hN : H.2.1 = N) (hO : wO H Ω N) (h0 : Ω (11, b0) = some (f0, s0)) (h1 : Ω (7, b0 + 8) = some (f1, s1)) (h2 : Ω (0, b2) = some (f2, s2)) (h3 : Ω (5, b0 + 34) = some (f3, s3)) (h4 : Ω (12, b4) = some (f4, s4)) (hq1 : f1 0 = some b2) (hq3 : f3 5 = some b4) : ∀ x, pX11_numberG s0 s1 s2 s3 s4 = some x → ∃ H', aMet l 64 yX11_number cX11_number 1 (some .long) [.ref b0] H (some (.long x.2.1)) H' ∧ wO H' (oU [(11, b0, f0, x.2.2.1), (5, b0 + 34, (va_up (va_up f3 0 (some b2)) 5 (some N)), x.2.2.2.1), (12, N, fZ, x.2.2.2.2)] Ω) (N + 1) ∧ H'.2 = (N + 1, H.2.2 + x.1.toNatClampNeg) := by
  intro x hx
  obtain ⟨q, hqh, hx⟩ := Option.bind_eq_some_iff.mp hx
  obtain ⟨x1, hx1, hx⟩ := Option.bind_eq_some_iff.mp hx
  obtain ⟨y, hy, hx⟩ := Option.bind_eq_some_iff.mp hx
  cases hx
  have hn : b4 ≠ N := Nat.ne_of_lt (wO_ne hO h4 rfl)
  have m1 : oM Ω [(11, b0, f0, s0), (7, b0 + 8, f1, s1), (0, b2, f2, s2), (5, b0 + 34, f3, s3), (12, b4, f4, s4)] := ⟨h0, h1, h2, h3, h4, trivial⟩
  have e1 := wO_lay hO m1
  have w1 := pX11_numberGh_w (l := l) (n0 := N) (S0 := H.2.2) (h := H) (b0 := b0) (b2 := b2) (b4 := b4) (f0 := f0) (f1 := f1) (f2 := f2) (f3 := f3) (f4 := f4) (wO_ok hO m1 (by simp [hn, Ne.symm hn])) hq1 hq3 s0 s1 s2 s3 s4 q hqh
  rw [e1] at w1
  try dsimp only at w1
  obtain ⟨H2, mc, O2, z2⟩ := pX5_numberOfG_ok (l := l) hN hO h3 h2 h4 h1 hq3 q x1 hx1
  have g1 : (oU [(5, b0 + 34, (va_up (va_up f3 0 (some b2)) 5 (some N)), x1.2.2.1), (12, N, fZ, x1.2.2.2)] Ω) (11, b0) = some (f0, s0) := by simp [oU, xk, h0, hn, Ne.symm hn]
  have g2 : (oU [(5, b0 + 34, (va_up (va_up f3 0 (some b2)) 5 (some N)), x1.2.2.1), (12, N, fZ, x1.2.2.2)] Ω) (7, b0 + 8) = some (f1, s1) := by simp [oU, xk, h1, hn, Ne.symm hn]
  have g3 : (oU [(5, b0 + 34, (va_up (va_up f3 0 (some b2)) 5 (some N)), x1.2.2.1), (12, N, fZ, x1.2.2.2)] Ω) (0, b2) = some (f2, s2) := by simp [oU, xk, h2, hn, Ne.symm hn]
  have g4 : (oU [(5, b0 + 34, (va_up (va_up f3 0 (some b2)) 5 (some N)), x1.2.2.1), (12, N, fZ, x1.2.2.2)] Ω) (12, b4) = some (f4, s4) := by simp [oU, xk, h4, hn, Ne.symm hn]
  have g5 : (oU [(5, b0 + 34, (va_up (va_up f3 0 (some b2)) 5 (some N)), x1.2.2.1), (12, N, fZ, x1.2.2.2)] Ω) (5, b0 + 34) = some ((va_up (va_up f3 0 (some b2)) 5 (some N)), x1.2.2.1) := by simp [oU, xk, hn, Ne.symm hn]
  have g6 : (oU [(5, b0 + 34, (va_up (va_up f3 0 (some b2)) 5 (some N)), x1.2.2.1), (12, N, fZ, x1.2.2.2)] Ω) (12, N) = some (fZ, x1.2.2.2) := by simp [oU, xk, hn, Ne.symm hn]
  have m3 : oM (oU [(5, b0 + 34, (va_up (va_up f3 0 (some b2)) 5 (some N)), x1.2.2.1), (12, N, fZ, x1.2.2.2)] Ω) [(11, b0, f0, s0)] := ⟨g1, trivial⟩
  have e3 := wO_lay O2 m3
  have w3 := pX11_numberGt_w (l := l) (n0 := N) (S0 := H.2.2) (h := H2) (b0 := b0) (f0 := f0) (wO_ok O2 m3 (by simp [hn, Ne.symm hn])) s0 x1.2.1 y hy _ _ ⟨rfl, rfl⟩
  rw [e3] at w3
  try dsimp only at w3
  have O3 := wO_up O2 (L := [(11, b0, f0, y.2)]) (oS_of m3 rfl)
  have u3 : oU [(11, b0, f0, y.2)] (oU [(5, b0 + 34, (va_up (va_up f3 0 (some b2)) 5 (some N)), x1.2.2.1), (12, N, fZ, x1.2.2.2)] Ω) = oU [(11, b0, f0, y.2)] (oU [(5, b0 + 34, (va_up (va_up f3 0 (some b2)) 5 (some N)), x1.2.2.1), (12, N, fZ, x1.2.2.2)] Ω) := (oU_k rfl)
  rw [u3] at O3
  generalize hH3 : xw [(11, b0, f0, y.2)] H2 = H3 at O3 w3
  have z3 : H3.2 = H2.2 := by rw [← hH3]; rfl
  have g7 : (oU [(11, b0, f0, y.2)] (oU [(5, b0 + 34, (va_up (va_up f3 0 (some b2)) 5 (some N)), x1.2.2.1), (12, N, fZ, x1.2.2.2)] Ω)) (7, b0 + 8) = some (f1, s1) := by simp [oU, xk, h1, hn, Ne.symm hn]
  have g8 : (oU [(11, b0, f0, y.2)] (oU [(5, b0 + 34, (va_up (va_up f3 0 (some b2)) 5 (some N)), x1.2.2.1), (12, N, fZ, x1.2.2.2)] Ω)) (0, b2) = some (f2, s2) := by simp [oU, xk, h2, hn, Ne.symm hn]
  have g9 : (oU [(11, b0, f0, y.2)] (oU [(5, b0 + 34, (va_up (va_up f3 0 (some b2)) 5 (some N)), x1.2.2.1), (12, N, fZ, x1.2.2.2)] Ω)) (12, b4) = some (f4, s4) := by simp [oU, xk, h4, hn, Ne.symm hn]
  have g10 : (oU [(11, b0, f0, y.2)] (oU [(5, b0 + 34, (va_up (va_up f3 0 (some b2)) 5 (some N)), x1.2.2.1), (12, N, fZ, x1.2.2.2)] Ω)) (5, b0 + 34) = some ((va_up (va_up f3 0 (some b2)) 5 (some N)), x1.2.2.1) := by simp [oU, xk, h3, hn, Ne.symm hn]
  have g11 : (oU [(11, b0, f0, y.2)] (oU [(5, b0 + 34, (va_up (va_up f3 0 (some b2)) 5 (some N)), x1.2.2.1), (12, N, fZ, x1.2.2.2)] Ω)) (12, N) = some (fZ, x1.2.2.2) := by simp [oU, xk, hn, Ne.symm hn]
  have g12 : (oU [(11, b0, f0, y.2)] (oU [(5, b0 + 34, (va_up (va_up f3 0 (some b2)) 5 (some N)), x1.2.2.1), (12, N, fZ, x1.2.2.2)] Ω)) (11, b0) = some (f0, y.2) := by simp [oU, xk, hn, Ne.symm hn]
  have e9 : oU [(11, b0, f0, y.2)] (oU [(5, b0 + 34, (va_up (va_up f3 0 (some b2)) 5 (some N)), x1.2.2.1), (12, N, fZ, x1.2.2.2)] Ω) = oU [(11, b0, f0, y.2), (5, b0 + 34, (va_up (va_up f3 0 (some b2)) 5 (some N)), x1.2.2.1), (12, N, fZ, x1.2.2.2)] Ω := by
    funext k
    simp only [oU, xk]
    try (by_cases k0 : k = (11, b0) <;> by_cases k1 : k = (5, b0 + 34) <;> by_cases k2 : k = (12, N) <;> simp_all)
  rw [e9] at O3
  refine ⟨H3, ?_, O3, z3.trans z2⟩
  refine ev_meth (by decide +kernel) (fun _ => Nat.le_of_ble_eq_true rfl) ?_
  rw [hN]
  refine w1 _ _ ?_
  refine ev_callV (M := MX11_number) (pc := 26) (As := [.ref b2, .ref (b0 + 8 + 16), .int q]) (st := [.ref b0]) cv_X11_354 (by decide) dX11_number_26 (wO_cell (o := 0) hO h3 xc0_5).1 (wO_cell (o := 0) hO h3 xc0_5).2 rfl (Nat.le_of_ble_eq_true rfl) mc rfl ?_
  exact w3
