section
variable {l : Launch} {n0 S0 : Nat} {h : aH} {b0 b2 : Nat} {f0 f1 f2 f3 : Nat → Option Nat}
def X11_agreedN_j24 (s0 : RS) (s1 : RS) (s2 : RS) (s3 : RS) : Option (Int32 × RS) :=
  (pX11_refuse s0 (5 : Int32)).bind fun x1 =>
  some (x1.1, x1.2)
theorem X11_agreedN_j24_ok (ho : xok [(11, b0), (7, (b0 + 8)), (0, b2), (10, (b0 + 50))] h.2.1) (hq_1_0 : f1 0 = some b2) (hq_1_1 : f1 1 = none) (s0 : RS) (s1 : RS) (s2 : RS) (s3 : RS) : aS l 1 MX11_agreed n0 S0 (oΦ (fun (x : Int32 × RS) => ((some (.int x.1)), xw [(11, b0, f0, x.2), (7, (b0 + 8), f1, s1), (0, b2, f2, s2), (10, (b0 + 50), f3, s3)] h))) 24 [(0, .ref b0)] [] (xw [(11, b0, f0, s0), (7, (b0 + 8), f1, s1), (0, b2, f2, s2), (10, (b0 + 50), f3, s3)] h) (X11_agreedN_j24 s0 s1 s2 s3) := by
  unfold X11_agreedN_j24
  refine s_aload_n (pc := 24) 0 dX11_agreed_24 rfl ?_
  refine s_iconst (v := 5) (pc := 25) dX11_agreed_25 (by decide) ?_
  refine x_callV (M := MX11_agreed) (L := [(11, b0, f0, s0), (7, (b0 + 8), f1, s1), (0, b2, f2, s2), (10, (b0 + 50), f3, s3)]) (h := h) (j := 0) (As := [.int 5]) (st := []) (A := fun (x : Int32 × RS) => some (.int x.1)) (Lc := [(11, b0, f0, s0)]) (Lr := fun (x : Int32 × RS) => [(11, b0, f0, x.2)]) (L2 := fun (x : Int32 × RS) => [(11, b0, f0, x.2), (7, (b0 + 8), f1, s1), (0, b2, f2, s2), (10, (b0 + 50), f3, s3)]) cv_X11_113 (by decide) (pc := 26) dX11_agreed_26 ho rfl xc0_11 rfl rfl (Nat.le_of_ble_eq_true rfl) (xovs (L := [(11, b0, f0, s0), (7, (b0 + 8), f1, s1), (0, b2, f2, s2), (10, (b0 + 50), f3, s3)]) (h := h) [(0, (11, b0, f0, s0))] ho ⟨rfl, trivial⟩).1 (fun x => (xovs (L := [(11, b0, f0, s0), (7, (b0 + 8), f1, s1), (0, b2, f2, s2), (10, (b0 + 50), f3, s3)]) (h := h) [(0, (11, b0, f0, x.2))] ho ⟨rfl, trivial⟩).1) (fun x hx => pX11_refuse_ok (h := xw [(11, b0, f0, s0), (7, (b0 + 8), f1, s1), (0, b2, f2, s2), (10, (b0 + 50), f3, s3)] h) (f0 := f0) (xok_sub ho [0] rfl (by decide)) s0 (5 : Int32) x hx) rfl (fun x1 _ => ?_)
  exact s_iret (pc := 29) dX11_agreed_29 rfl (fun _ _ q => q)
def pX11_agreedN (s0 : RS) (s1 : RS) (s2 : RS) (s3 : RS) (a0 : Int32) (a1 : Int32) : Option (Int32 × RS) :=
  if a0 < 0 then
    X11_agreedN_j24 s0 s1 s2 s3
  else
    if a1 < (1 : Int32) then
      X11_agreedN_j24 s0 s1 s2 s3
    else
      if (30 : Int32) < a1 then
        X11_agreedN_j24 s0 s1 s2 s3
      else
        if a0 ≤ ((10000 : Int32) - a1) then
          (pX11_refuse s0 (8 : Int32)).bind fun x2 =>
          some (x2.1, x2.2)
        else
          X11_agreedN_j24 s0 s1 s2 s3
theorem pX11_agreedN_w (ho : xok [(11, b0), (7, (b0 + 8)), (0, b2), (10, (b0 + 50))] h.2.1) (hq_1_0 : f1 0 = some b2) (hq_1_1 : f1 1 = none) (s0 : RS) (s1 : RS) (s2 : RS) (s3 : RS) (a0 : Int32) (a1 : Int32) : aS l 1 MX11_agreed n0 S0 (oΦ (fun (x : Int32 × RS) => ((some (.int x.1)), xw [(11, b0, f0, x.2), (7, (b0 + 8), f1, s1), (0, b2, f2, s2), (10, (b0 + 50), f3, s3)] h))) 0 [(0, .ref b0), (1, .int a0), (2, .int a1)] [] (xw [(11, b0, f0, s0), (7, (b0 + 8), f1, s1), (0, b2, f2, s2), (10, (b0 + 50), f3, s3)] h) (pX11_agreedN s0 s1 s2 s3 a0 a1) := by
  unfold pX11_agreedN
  refine s_iload_n (pc := 0) 1 dX11_agreed_0 rfl ?_
  refine s_if_lt (tgt := 24) (pc := 1) dX11_agreed_1 (by decide) (fun _ => ?_) (fun _ => ?_)
  · refine s_sub [0] rfl ?_
    exact X11_agreedN_j24_ok ho hq_1_0 hq_1_1 s0 s1 s2 s3
  · refine s_iload_n (pc := 4) 2 dX11_agreed_4 rfl ?_
    refine s_iconst (v := 1) (pc := 5) dX11_agreed_5 (by decide) ?_
    refine s_icmp_lt (tgt := 24) (pc := 6) dX11_agreed_6 (by decide) (fun _ => ?_) (fun _ => ?_)
    · refine s_sub [0] rfl ?_
      exact X11_agreedN_j24_ok ho hq_1_0 hq_1_1 s0 s1 s2 s3
    · refine s_iload_n (pc := 9) 2 dX11_agreed_9 rfl ?_
      refine s_bipush (v := 30) (pc := 10) dX11_agreed_10 (by decide) ?_
      refine s_icmp_gt (tgt := 24) (pc := 12) dX11_agreed_12 (by decide) (fun _ => ?_) (fun _ => ?_)
      · refine s_sub [0] rfl ?_
        exact X11_agreedN_j24_ok ho hq_1_0 hq_1_1 s0 s1 s2 s3
      · refine s_iload_n (pc := 15) 1 dX11_agreed_15 rfl ?_
        refine s_sipush (v := 10000) (pc := 16) dX11_agreed_16 (by decide) ?_
        refine s_iload_n (pc := 19) 2 dX11_agreed_19 rfl ?_
        refine s_isub (pc := 20) dX11_agreed_20 ?_
        refine s_icmp_le (tgt := 30) (pc := 21) dX11_agreed_21 (by decide) (fun _ => ?_) (fun _ => ?_)
        · refine s_aload_n (pc := 30) 0 dX11_agreed_30 rfl ?_
          refine xg_X11_25 0 ho rfl (pc := 31) dX11_agreed_31 rfl ?_
          refine xgN_X11_185 1 ho rfl (pc := 34) dX11_agreed_34 rfl hq_1_1 ?_
          refine s_astore_nN (lv' := [(3, .null), (0, .ref b0), (1, .int a0), (2, .int a1)]) (pc := 37) dX11_agreed_37 (by decide) rfl ?_
          refine s_aload_nN (pc := 38) 0 dX11_agreed_38 rfl ?_
          refine s_nullJ (tgt := 0) (pc := 39) dX11_agreed_39 ?_
          refine s_aload_n (pc := 42) 1 dX11_agreed_42 rfl ?_
          refine s_bipush (v := 8) (pc := 43) dX11_agreed_43 (by decide) ?_
          refine x_callV (M := MX11_agreed) (L := [(11, b0, f0, s0), (7, (b0 + 8), f1, s1), (0, b2, f2, s2), (10, (b0 + 50), f3, s3)]) (h := h) (j := 0) (As := [.int 8]) (st := []) (A := fun (x : Int32 × RS) => some (.int x.1)) (Lc := [(11, b0, f0, s0)]) (Lr := fun (x : Int32 × RS) => [(11, b0, f0, x.2)]) (L2 := fun (x : Int32 × RS) => [(11, b0, f0, x.2), (7, (b0 + 8), f1, s1), (0, b2, f2, s2), (10, (b0 + 50), f3, s3)]) cv_X11_113 (by decide) (pc := 45) dX11_agreed_45 ho rfl xc0_11 rfl rfl (Nat.le_of_ble_eq_true rfl) (xovs (L := [(11, b0, f0, s0), (7, (b0 + 8), f1, s1), (0, b2, f2, s2), (10, (b0 + 50), f3, s3)]) (h := h) [(0, (11, b0, f0, s0))] ho ⟨rfl, trivial⟩).1 (fun x => (xovs (L := [(11, b0, f0, s0), (7, (b0 + 8), f1, s1), (0, b2, f2, s2), (10, (b0 + 50), f3, s3)]) (h := h) [(0, (11, b0, f0, x.2))] ho ⟨rfl, trivial⟩).1) (fun x hx => pX11_refuse_ok (h := xw [(11, b0, f0, s0), (7, (b0 + 8), f1, s1), (0, b2, f2, s2), (10, (b0 + 50), f3, s3)] h) (f0 := f0) (xok_sub ho [0] rfl (by decide)) s0 (8 : Int32) x hx) rfl (fun x2 _ => ?_)
          exact s_iret (pc := 48) dX11_agreed_48 rfl (fun _ _ q => q)
        · refine s_sub [0] rfl ?_
          exact X11_agreedN_j24_ok ho hq_1_0 hq_1_1 s0 s1 s2 s3
theorem pX11_agreedN_ok (ho : xok [(11, b0), (7, (b0 + 8)), (0, b2), (10, (b0 + 50))] h.2.1) (hq_1_0 : f1 0 = some b2) (hq_1_1 : f1 1 = none) (s0 : RS) (s1 : RS) (s2 : RS) (s3 : RS) (a0 : Int32) (a1 : Int32) : ∀ x, pX11_agreedN s0 s1 s2 s3 a0 a1 = some x → aMet l 1 yX11_agreed cX11_agreed 6 (some .int) [.ref b0, .int a0, .int a1] (xw [(11, b0, f0, s0), (7, (b0 + 8), f1, s1), (0, b2, f2, s2), (10, (b0 + 50), f3, s3)] h) (some (.int x.1)) (xw [(11, b0, f0, x.2), (7, (b0 + 8), f1, s1), (0, b2, f2, s2), (10, (b0 + 50), f3, s3)] h) := fun x hx => a_meth (ini := false) (y := yX11_agreed) (by decide +kernel) (fun q => by cases q) (fun _ => Nat.le_of_ble_eq_true rfl) (pX11_agreedN_w ho hq_1_0 hq_1_1 s0 s1 s2 s3 a0 a1) x hx _ _ ⟨rfl, rfl⟩
end
section
variable {l : Launch} {n0 S0 : Nat} {h : aH} {b0 b2 : Nat} {f0 f1 f2 : Nat → Option Nat}
abbrev MX11_sealOf : aM := (cX11_sealOf, RX11, 2, (some .int), false)
def pX11_sealOf (s0 : RS) (s1 : RS) (s2 : RS) (a0 : Int32) : Option Int32 :=
  g_in a0 16 (
  some ((s2.2.2.1 4 a0.toNatClampNeg) + ((5 : Int32) * a0)))
theorem pX11_sealOf_w (ho : xok [(11, b0), (7, (b0 + 8)), (0, b2)] h.2.1) (hq_1_0 : f1 0 = some b2) (s0 : RS) (s1 : RS) (s2 : RS) (a0 : Int32) : aS l 0 MX11_sealOf n0 S0 (oΦ (fun (x : Int32) => ((some (.int x)), xw [(11, b0, f0, s0), (7, (b0 + 8), f1, s1), (0, b2, f2, s2)] h))) 0 [(0, .ref b0), (1, .int a0)] [] (xw [(11, b0, f0, s0), (7, (b0 + 8), f1, s1), (0, b2, f2, s2)] h) (pX11_sealOf s0 s1 s2 a0) := by
  unfold pX11_sealOf
  refine s_aload_n (pc := 0) 0 dX11_sealOf_0 rfl ?_
  refine xg_X11_25 0 ho rfl (pc := 1) dX11_sealOf_1 rfl ?_
  refine xg_X11_174 1 ho rfl (pc := 4) dX11_sealOf_4 rfl hq_1_0 ?_
  refine xg_X11_215 2 ho rfl (pc := 7) dX11_sealOf_7 rfl ?_
  refine s_iload_n (pc := 10) 1 dX11_sealOf_10 rfl ?_
  refine xl_0_4 2 ho rfl (pc := 11) dX11_sealOf_11 ?_
  refine s_iconst (v := 5) (pc := 12) dX11_sealOf_12 (by decide) ?_
  refine s_iload_n (pc := 13) 1 dX11_sealOf_13 rfl ?_
  refine s_imul (pc := 14) dX11_sealOf_14 ?_
  refine s_iadd (pc := 15) dX11_sealOf_15 ?_
  exact s_iret (pc := 16) dX11_sealOf_16 rfl (fun _ _ q => q)
theorem pX11_sealOf_ok (ho : xok [(11, b0), (7, (b0 + 8)), (0, b2)] h.2.1) (hq_1_0 : f1 0 = some b2) (s0 : RS) (s1 : RS) (s2 : RS) (a0 : Int32) : ∀ x, pX11_sealOf s0 s1 s2 a0 = some x → aMet l 0 yX11_sealOf cX11_sealOf 2 (some .int) [.ref b0, .int a0] (xw [(11, b0, f0, s0), (7, (b0 + 8), f1, s1), (0, b2, f2, s2)] h) (some (.int x)) (xw [(11, b0, f0, s0), (7, (b0 + 8), f1, s1), (0, b2, f2, s2)] h) := fun x hx => a_meth (ini := false) (y := yX11_sealOf) (by decide +kernel) (fun q => by cases q) (fun _ => Nat.le_of_ble_eq_true rfl) (pX11_sealOf_w ho hq_1_0 s0 s1 s2 a0) x hx _ _ ⟨rfl, rfl⟩
end
section
variable {l : Launch} {n0 S0 : Nat} {h : aH} {b0 b2 b3 : Nat} {f0 f1 f2 f3 : Nat → Option Nat}
abbrev MX11_writeSeal : aM := (cX11_writeSeal, RX11, 7, none, false)
def X11_writeSeal_x24 (l : Launch) (n0 S0 : Nat) (h : aH) (b0 : Nat) (b2 : Nat) (b3 : Nat) (f0 : Nat → Option Nat) (f1 : Nat → Option Nat) (f2 : Nat → Option Nat) (f3 : Nat → Option Nat) (v2 : Int32) (s0 : RS) (s1 : RS) (s2 : RS) : (Int32 × Int32 × RS) → Option Value → aH → Prop := fun (x : Int32 × Int32 × RS) r h' => aEv l 2 MX11_writeSeal n0 S0 81 [(1, .ref b3), (4, .int x.1), (5, .int x.2.1)] [] (xw [(11, b0, f0, s0), (7, (b0 + 8), f1, s1), (0, b2, f2, s2), (9, b3, f3, x.2.2)] h) r h'
def X11_writeSeal_j75 (v2 : Int32) (v4 : Int32) (v5 : Int32) (v6 : Int32) (s0 : RS) (s1 : RS) (s2 : RS) (s3 : RS) : Option ((Int32 × Int32 × Int32 × RS) ⊕ (Int32 × Int32 × RS)) :=
  thn (v6 + 1) fun x5 =>
  some (.inl (v4, v5, x5, s3))
theorem X11_writeSeal_j75_ok (ho : xok [(11, b0), (7, (b0 + 8)), (0, b2), (9, b3)] h.2.1) (hq_1_0 : f1 0 = some b2) (v2 : Int32) (v4 : Int32) (v5 : Int32) (v6 : Int32) (s0 : RS) (s1 : RS) (s2 : RS) (s3 : RS) : aS l 2 MX11_writeSeal n0 S0 (a_LΦ (X11_writeSeal_x24 l n0 S0 h b0 b2 b3 f0 f1 f2 f3 v2 s0 s1 s2) l 2 MX11_writeSeal n0 S0 24 (fun (q : Int32 × Int32 × Int32 × RS) => [(0, .ref b0), (1, .ref b3), (2, .int v2), (4, .int q.1), (5, .int q.2.1), (6, .int q.2.2.1)]) (fun _ => []) (fun (q : Int32 × Int32 × Int32 × RS) => xw [(11, b0, f0, s0), (7, (b0 + 8), f1, s1), (0, b2, f2, s2), (9, b3, f3, q.2.2.2)] h)) 75 [(0, .ref b0), (1, .ref b3), (2, .int v2), (4, .int v4), (5, .int v5), (6, .int v6)] [] (xw [(11, b0, f0, s0), (7, (b0 + 8), f1, s1), (0, b2, f2, s2), (9, b3, f3, s3)] h) (X11_writeSeal_j75 v2 v4 v5 v6 s0 s1 s2 s3) := by
  unfold X11_writeSeal_j75
  refine s_iincT (pc := 75) 5 (lv' := fun x5 => [(6, .int x5), (0, .ref b0), (1, .ref b3), (2, .int v2), (4, .int v4), (5, .int v5)]) dX11_writeSeal_75 rfl rfl (by decide) (fun _ => rfl) (fun x5 => ?_)
  refine s_goto (tgt := 24) (pc := 78) dX11_writeSeal_78 (by decide) ?_
  refine s_sub [1, 2, 3, 4, 5, 0] rfl ?_
  exact s_ev (fun _ _ q => q)
def X11_writeSeal_b24 (v2 : Int32) (v4 : Int32) (v5 : Int32) (v6 : Int32) (s0 : RS) (s1 : RS) (s2 : RS) (s3 : RS) : Option ((Int32 × Int32 × Int32 × RS) ⊕ (Int32 × Int32 × RS)) :=
  if (s2.1 1) ≤ v6 then
    some (.inr (v4, v5, s3))
  else
    (pX0_isIn v2 v6).bind fun x4 =>
    if x4 = true then
      (pX11_sealOf s0 s1 s2 v6).bind fun x6 =>
      (pX9_set s3 v4 x6.toInt64).bind fun x7 =>
      (pX11_sealOf s0 s1 s2 v6).bind fun x8 =>
      thn (v5 + x8) fun x9 =>
      thn (v4 + 1) fun x10 =>
      X11_writeSeal_j75 v2 x10 x9 v6 s0 s1 s2 x7
    else
      X11_writeSeal_j75 v2 v4 v5 v6 s0 s1 s2 s3
theorem X11_writeSeal_b24_ok (ho : xok [(11, b0), (7, (b0 + 8)), (0, b2), (9, b3)] h.2.1) (hq_1_0 : f1 0 = some b2) (v2 : Int32) (v4 : Int32) (v5 : Int32) (v6 : Int32) (s0 : RS) (s1 : RS) (s2 : RS) (s3 : RS) : aS l 2 MX11_writeSeal n0 S0 (a_LΦ (X11_writeSeal_x24 l n0 S0 h b0 b2 b3 f0 f1 f2 f3 v2 s0 s1 s2) l 2 MX11_writeSeal n0 S0 24 (fun (q : Int32 × Int32 × Int32 × RS) => [(0, .ref b0), (1, .ref b3), (2, .int v2), (4, .int q.1), (5, .int q.2.1), (6, .int q.2.2.1)]) (fun _ => []) (fun (q : Int32 × Int32 × Int32 × RS) => xw [(11, b0, f0, s0), (7, (b0 + 8), f1, s1), (0, b2, f2, s2), (9, b3, f3, q.2.2.2)] h)) 24 [(0, .ref b0), (1, .ref b3), (2, .int v2), (4, .int v4), (5, .int v5), (6, .int v6)] [] (xw [(11, b0, f0, s0), (7, (b0 + 8), f1, s1), (0, b2, f2, s2), (9, b3, f3, s3)] h) (X11_writeSeal_b24 v2 v4 v5 v6 s0 s1 s2 s3) := by
  unfold X11_writeSeal_b24
  refine s_iload (pc := 24) 5 dX11_writeSeal_24 rfl ?_
  refine s_aload_n (pc := 26) 0 dX11_writeSeal_26 rfl ?_
  refine xg_X11_25 0 ho rfl (pc := 27) dX11_writeSeal_27 rfl ?_
  refine xg_X11_174 1 ho rfl (pc := 30) dX11_writeSeal_30 rfl hq_1_0 ?_
  refine xg_X11_164 2 ho rfl (pc := 33) dX11_writeSeal_33 rfl ?_
  refine s_icmp_ge (tgt := 81) (pc := 36) dX11_writeSeal_36 (by decide) (fun _ => ?_) (fun _ => ?_)
  · refine s_sub [1, 3, 4] rfl ?_
    exact s_ev (fun _ _ q => q)
  · refine s_iload_n (pc := 39) 2 dX11_writeSeal_39 rfl ?_
    refine s_iload (pc := 40) 5 dX11_writeSeal_40 rfl ?_
    refine s_callS (M := MX11_writeSeal) (As := [.int v2, .int v6]) (st := []) (Ψ := fun (x : Bool) => (some (.int (b2i x)), xw [(11, b0, f0, s0), (7, (b0 + 8), f1, s1), (0, b2, f2, s2), (9, b3, f3, s3)] h)) cs_X11_305 (by decide) (pc := 42) dX11_writeSeal_42 rfl (Nat.le_of_ble_eq_true rfl) (fun x hx => pX0_isIn_ok v2 v6 x hx) rfl (fun x4 _ => ?_)
    refine s_if_eqB (tgt := 75) (pc := 45) dX11_writeSeal_45 (by decide) (fun _ => ?_) (fun _ => ?_)
    · refine s_aload_n (pc := 48) 1 dX11_writeSeal_48 rfl ?_
      refine s_iload (pc := 49) 3 dX11_writeSeal_49 rfl ?_
      refine s_aload_n (pc := 51) 0 dX11_writeSeal_51 rfl ?_
      refine s_iload (pc := 52) 5 dX11_writeSeal_52 rfl ?_
      refine x_callV (M := MX11_writeSeal) (L := [(11, b0, f0, s0), (7, (b0 + 8), f1, s1), (0, b2, f2, s2), (9, b3, f3, s3)]) (h := h) (j := 0) (As := [.int v6]) (st := [.int v4, .ref b3]) (A := fun (x : Int32) => some (.int x)) (Lc := [(11, b0, f0, s0), (7, (b0 + 8), f1, s1), (0, b2, f2, s2)]) (Lr := fun (x : Int32) => [(11, b0, f0, s0), (7, (b0 + 8), f1, s1), (0, b2, f2, s2)]) (L2 := fun (x : Int32) => [(11, b0, f0, s0), (7, (b0 + 8), f1, s1), (0, b2, f2, s2), (9, b3, f3, s3)]) cv_X11_410 (by decide) (pc := 54) dX11_writeSeal_54 ho rfl xc0_11 rfl rfl (Nat.le_of_ble_eq_true rfl) (xovs (L := [(11, b0, f0, s0), (7, (b0 + 8), f1, s1), (0, b2, f2, s2), (9, b3, f3, s3)]) (h := h) [(0, (11, b0, f0, s0)), (1, (7, (b0 + 8), f1, s1)), (2, (0, b2, f2, s2))] ho ⟨rfl, rfl, rfl, trivial⟩).1 (fun x => (xovs (L := [(11, b0, f0, s0), (7, (b0 + 8), f1, s1), (0, b2, f2, s2), (9, b3, f3, s3)]) (h := h) [(0, (11, b0, f0, s0)), (1, (7, (b0 + 8), f1, s1)), (2, (0, b2, f2, s2))] ho ⟨rfl, rfl, rfl, trivial⟩).1) (fun x hx => pX11_sealOf_ok (h := xw [(11, b0, f0, s0), (7, (b0 + 8), f1, s1), (0, b2, f2, s2), (9, b3, f3, s3)] h) (f0 := f0) (f1 := f1) (f2 := f2) (xok_sub ho [0, 1, 2] rfl (by decide)) hq_1_0 s0 s1 s2 v6 x hx) rfl (fun x6 _ => ?_)
      refine s_i2l (pc := 57) dX11_writeSeal_57 ?_
      refine x_callV (M := MX11_writeSeal) (L := [(11, b0, f0, s0), (7, (b0 + 8), f1, s1), (0, b2, f2, s2), (9, b3, f3, s3)]) (h := h) (j := 3) (As := [.int v4, .long x6.toInt64]) (st := []) (A := fun (x : RS) => none) (Lc := [(9, b3, f3, s3)]) (Lr := fun (x : RS) => [(9, b3, f3, x)]) (L2 := fun (x : RS) => [(11, b0, f0, s0), (7, (b0 + 8), f1, s1), (0, b2, f2, s2), (9, b3, f3, x)]) cv_X11_109 (by decide) (pc := 58) dX11_writeSeal_58 ho rfl xc0_9 rfl rfl (Nat.le_of_ble_eq_true rfl) (xovs (L := [(11, b0, f0, s0), (7, (b0 + 8), f1, s1), (0, b2, f2, s2), (9, b3, f3, s3)]) (h := h) [(3, (9, b3, f3, s3))] ho ⟨rfl, trivial⟩).1 (fun x => (xovs (L := [(11, b0, f0, s0), (7, (b0 + 8), f1, s1), (0, b2, f2, s2), (9, b3, f3, s3)]) (h := h) [(3, (9, b3, f3, x))] ho ⟨rfl, trivial⟩).1) (fun x hx => pX9_set_ok (h := xw [(11, b0, f0, s0), (7, (b0 + 8), f1, s1), (0, b2, f2, s2), (9, b3, f3, s3)] h) (f0 := f3) (xok_sub ho [3] rfl (by decide)) s3 v4 x6.toInt64 x hx) rfl (fun x7 _ => ?_)
      refine s_iload (pc := 61) 4 dX11_writeSeal_61 rfl ?_
      refine s_aload_n (pc := 63) 0 dX11_writeSeal_63 rfl ?_
      refine s_iload (pc := 64) 5 dX11_writeSeal_64 rfl ?_
      refine x_callV (M := MX11_writeSeal) (L := [(11, b0, f0, s0), (7, (b0 + 8), f1, s1), (0, b2, f2, s2), (9, b3, f3, x7)]) (h := h) (j := 0) (As := [.int v6]) (st := [.int v5]) (A := fun (x : Int32) => some (.int x)) (Lc := [(11, b0, f0, s0), (7, (b0 + 8), f1, s1), (0, b2, f2, s2)]) (Lr := fun (x : Int32) => [(11, b0, f0, s0), (7, (b0 + 8), f1, s1), (0, b2, f2, s2)]) (L2 := fun (x : Int32) => [(11, b0, f0, s0), (7, (b0 + 8), f1, s1), (0, b2, f2, s2), (9, b3, f3, x7)]) cv_X11_410 (by decide) (pc := 66) dX11_writeSeal_66 ho rfl xc0_11 rfl rfl (Nat.le_of_ble_eq_true rfl) (xovs (L := [(11, b0, f0, s0), (7, (b0 + 8), f1, s1), (0, b2, f2, s2), (9, b3, f3, x7)]) (h := h) [(0, (11, b0, f0, s0)), (1, (7, (b0 + 8), f1, s1)), (2, (0, b2, f2, s2))] ho ⟨rfl, rfl, rfl, trivial⟩).1 (fun x => (xovs (L := [(11, b0, f0, s0), (7, (b0 + 8), f1, s1), (0, b2, f2, s2), (9, b3, f3, x7)]) (h := h) [(0, (11, b0, f0, s0)), (1, (7, (b0 + 8), f1, s1)), (2, (0, b2, f2, s2))] ho ⟨rfl, rfl, rfl, trivial⟩).1) (fun x hx => pX11_sealOf_ok (h := xw [(11, b0, f0, s0), (7, (b0 + 8), f1, s1), (0, b2, f2, s2), (9, b3, f3, x7)] h) (f0 := f0) (f1 := f1) (f2 := f2) (xok_sub ho [0, 1, 2] rfl (by decide)) hq_1_0 s0 s1 s2 v6 x hx) rfl (fun x8 _ => ?_)
      refine s_iadd (pc := 69) dX11_writeSeal_69 ?_
      refine s_istoreT (lv' := fun x9 => [(5, .int x9), (0, .ref b0), (1, .ref b3), (2, .int v2), (4, .int v4), (6, .int v6)]) (pc := 70) dX11_writeSeal_70 (by decide) (fun _ => rfl) (fun x9 => ?_)
      refine s_iincT (pc := 72) 4 (lv' := fun x10 => [(4, .int x10), (5, .int x9), (0, .ref b0), (1, .ref b3), (2, .int v2), (6, .int v6)]) dX11_writeSeal_72 rfl rfl (by decide) (fun _ => rfl) (fun x10 => ?_)
      refine s_sub [2, 3, 4, 0, 1, 5] rfl ?_
      exact X11_writeSeal_j75_ok ho hq_1_0 v2 x10 x9 v6 s0 s1 s2 x7
    · exact X11_writeSeal_j75_ok ho hq_1_0 v2 v4 v5 v6 s0 s1 s2 s3
def pX11_writeSeal (s0 : RS) (s1 : RS) (s2 : RS) (s3 : RS) (a1 : Int32) (a2 : Int32) : Option RS :=
  (pX9_set s3 (0 : Int32) (1 : Int64)).bind fun x1 =>
  (pX9_set x1 (1 : Int32) a2.toInt64).bind fun x2 =>
  thn ((1 : Int32) + a2) fun x3 =>
  (a_loop (fun (q : Int32 × Int32 × Int32 × RS) => X11_writeSeal_b24 a1 q.1 q.2.1 q.2.2.1 s0 s1 s2 q.2.2.2) FU ((2 : Int32), x3, (0 : Int32), x2)).bind fun (t11 : Int32 × Int32 × RS) =>
    (pX9_set t11.2.2 t11.1 ((t11.2.1 - t11.2.1 / (251 : Int32) * (251 : Int32)).toInt64)).bind fun x12 =>
    some x12
theorem pX11_writeSeal_w (ho : xok [(11, b0), (7, (b0 + 8)), (0, b2), (9, b3)] h.2.1) (hq_1_0 : f1 0 = some b2) (s0 : RS) (s1 : RS) (s2 : RS) (s3 : RS) (a1 : Int32) (a2 : Int32) : aS l 2 MX11_writeSeal n0 S0 (oΦ (fun (x : RS) => (none, xw [(11, b0, f0, s0), (7, (b0 + 8), f1, s1), (0, b2, f2, s2), (9, b3, f3, x)] h))) 0 [(0, .ref b0), (1, .ref b3), (2, .int a1), (3, .int a2)] [] (xw [(11, b0, f0, s0), (7, (b0 + 8), f1, s1), (0, b2, f2, s2), (9, b3, f3, s3)] h) (pX11_writeSeal s0 s1 s2 s3 a1 a2) := by
  unfold pX11_writeSeal
  refine s_aload_n (pc := 0) 1 dX11_writeSeal_0 rfl ?_
  refine s_iconst (v := 0) (pc := 1) dX11_writeSeal_1 (by decide) ?_
  refine s_lconst (v := 1) (pc := 2) dX11_writeSeal_2 (by decide) ?_
  refine x_callV (M := MX11_writeSeal) (L := [(11, b0, f0, s0), (7, (b0 + 8), f1, s1), (0, b2, f2, s2), (9, b3, f3, s3)]) (h := h) (j := 3) (As := [.int 0, .long (1 : Int64)]) (st := []) (A := fun (x : RS) => none) (Lc := [(9, b3, f3, s3)]) (Lr := fun (x : RS) => [(9, b3, f3, x)]) (L2 := fun (x : RS) => [(11, b0, f0, s0), (7, (b0 + 8), f1, s1), (0, b2, f2, s2), (9, b3, f3, x)]) cv_X11_109 (by decide) (pc := 3) dX11_writeSeal_3 ho rfl xc0_9 rfl rfl (Nat.le_of_ble_eq_true rfl) (xovs (L := [(11, b0, f0, s0), (7, (b0 + 8), f1, s1), (0, b2, f2, s2), (9, b3, f3, s3)]) (h := h) [(3, (9, b3, f3, s3))] ho ⟨rfl, trivial⟩).1 (fun x => (xovs (L := [(11, b0, f0, s0), (7, (b0 + 8), f1, s1), (0, b2, f2, s2), (9, b3, f3, s3)]) (h := h) [(3, (9, b3, f3, x))] ho ⟨rfl, trivial⟩).1) (fun x hx => pX9_set_ok (h := xw [(11, b0, f0, s0), (7, (b0 + 8), f1, s1), (0, b2, f2, s2), (9, b3, f3, s3)] h) (f0 := f3) (xok_sub ho [3] rfl (by decide)) s3 (0 : Int32) (1 : Int64) x hx) rfl (fun x1 _ => ?_)
  refine s_aload_n (pc := 6) 1 dX11_writeSeal_6 rfl ?_
  refine s_iconst (v := 1) (pc := 7) dX11_writeSeal_7 (by decide) ?_
  refine s_iload_n (pc := 8) 3 dX11_writeSeal_8 rfl ?_
  refine s_i2l (pc := 9) dX11_writeSeal_9 ?_
  refine x_callV (M := MX11_writeSeal) (L := [(11, b0, f0, s0), (7, (b0 + 8), f1, s1), (0, b2, f2, s2), (9, b3, f3, x1)]) (h := h) (j := 3) (As := [.int 1, .long a2.toInt64]) (st := []) (A := fun (x : RS) => none) (Lc := [(9, b3, f3, x1)]) (Lr := fun (x : RS) => [(9, b3, f3, x)]) (L2 := fun (x : RS) => [(11, b0, f0, s0), (7, (b0 + 8), f1, s1), (0, b2, f2, s2), (9, b3, f3, x)]) cv_X11_109 (by decide) (pc := 10) dX11_writeSeal_10 ho rfl xc0_9 rfl rfl (Nat.le_of_ble_eq_true rfl) (xovs (L := [(11, b0, f0, s0), (7, (b0 + 8), f1, s1), (0, b2, f2, s2), (9, b3, f3, x1)]) (h := h) [(3, (9, b3, f3, x1))] ho ⟨rfl, trivial⟩).1 (fun x => (xovs (L := [(11, b0, f0, s0), (7, (b0 + 8), f1, s1), (0, b2, f2, s2), (9, b3, f3, x1)]) (h := h) [(3, (9, b3, f3, x))] ho ⟨rfl, trivial⟩).1) (fun x hx => pX9_set_ok (h := xw [(11, b0, f0, s0), (7, (b0 + 8), f1, s1), (0, b2, f2, s2), (9, b3, f3, x1)] h) (f0 := f3) (xok_sub ho [3] rfl (by decide)) x1 (1 : Int32) a2.toInt64 x hx) rfl (fun x2 _ => ?_)
  refine s_iconst (v := 2) (pc := 13) dX11_writeSeal_13 (by decide) ?_
  refine s_istore (lv' := [(4, .int 2), (0, .ref b0), (1, .ref b3), (2, .int a1), (3, .int a2)]) (pc := 14) dX11_writeSeal_14 (by decide) rfl ?_
  refine s_iconst (v := 1) (pc := 16) dX11_writeSeal_16 (by decide) ?_
  refine s_iload_n (pc := 17) 4 dX11_writeSeal_17 rfl ?_
  refine s_iadd (pc := 18) dX11_writeSeal_18 ?_
  refine s_istoreT (lv' := fun x3 => [(5, .int x3), (4, .int 2), (0, .ref b0), (1, .ref b3), (2, .int a1), (3, .int a2)]) (pc := 19) dX11_writeSeal_19 (by decide) (fun _ => rfl) (fun x3 => ?_)
  refine s_iconst (v := 0) (pc := 21) dX11_writeSeal_21 (by decide) ?_
  refine s_istore (lv' := [(6, .int 0), (5, .int x3), (4, .int 2), (0, .ref b0), (1, .ref b3), (2, .int a1), (3, .int a2)]) (pc := 22) dX11_writeSeal_22 (by decide) rfl ?_
  refine s_bind (Ψ := X11_writeSeal_x24 l n0 S0 h b0 b2 b3 f0 f1 f2 f3 a1 s0 s1 s2) ?_ ?_
  · refine s_sub [3, 4, 5, 2, 1, 0] rfl ?_
    exact s_loop (lvf := fun (q : Int32 × Int32 × Int32 × RS) => [(0, .ref b0), (1, .ref b3), (2, .int a1), (4, .int q.1), (5, .int q.2.1), (6, .int q.2.2.1)]) (stf := fun _ => []) (hf := fun (q : Int32 × Int32 × Int32 × RS) => xw [(11, b0, f0, s0), (7, (b0 + 8), f1, s1), (0, b2, f2, s2), (9, b3, f3, q.2.2.2)] h) (fun q => X11_writeSeal_b24_ok ho hq_1_0 a1 q.1 q.2.1 q.2.2.1 s0 s1 s2 q.2.2.2) FU ((2 : Int32), x3, (0 : Int32), x2)
  · intro t11 z r h' hz hr
    refine (?_ : aS l 2 MX11_writeSeal n0 S0 (oΦ (fun (x : RS) => (none, xw [(11, b0, f0, s0), (7, (b0 + 8), f1, s1), (0, b2, f2, s2), (9, b3, f3, x)] h))) 81 [(1, .ref b3), (4, .int t11.1), (5, .int t11.2.1)] [] (xw [(11, b0, f0, s0), (7, (b0 + 8), f1, s1), (0, b2, f2, s2), (9, b3, f3, t11.2.2)] h) _) z hz r h' hr
    refine s_aload_n (pc := 81) 0 dX11_writeSeal_81 rfl ?_
    refine s_iload (pc := 82) 1 dX11_writeSeal_82 rfl ?_
    refine s_iload (pc := 84) 2 dX11_writeSeal_84 rfl ?_
    refine s_sipush (v := 251) (pc := 86) dX11_writeSeal_86 (by decide) ?_
    refine s_iremC (pc := 89) dX11_writeSeal_89 (by decide) ?_
    refine s_i2l (pc := 90) dX11_writeSeal_90 ?_
    refine x_callV (M := MX11_writeSeal) (L := [(11, b0, f0, s0), (7, (b0 + 8), f1, s1), (0, b2, f2, s2), (9, b3, f3, t11.2.2)]) (h := h) (j := 3) (As := [.int t11.1, .long (t11.2.1 - t11.2.1 / (251 : Int32) * (251 : Int32)).toInt64]) (st := []) (A := fun (x : RS) => none) (Lc := [(9, b3, f3, t11.2.2)]) (Lr := fun (x : RS) => [(9, b3, f3, x)]) (L2 := fun (x : RS) => [(11, b0, f0, s0), (7, (b0 + 8), f1, s1), (0, b2, f2, s2), (9, b3, f3, x)]) cv_X11_109 (by decide) (pc := 91) dX11_writeSeal_91 ho rfl xc0_9 rfl rfl (Nat.le_of_ble_eq_true rfl) (xovs (L := [(11, b0, f0, s0), (7, (b0 + 8), f1, s1), (0, b2, f2, s2), (9, b3, f3, t11.2.2)]) (h := h) [(3, (9, b3, f3, t11.2.2))] ho ⟨rfl, trivial⟩).1 (fun x => (xovs (L := [(11, b0, f0, s0), (7, (b0 + 8), f1, s1), (0, b2, f2, s2), (9, b3, f3, t11.2.2)]) (h := h) [(3, (9, b3, f3, x))] ho ⟨rfl, trivial⟩).1) (fun x hx => pX9_set_ok (h := xw [(11, b0, f0, s0), (7, (b0 + 8), f1, s1), (0, b2, f2, s2), (9, b3, f3, t11.2.2)] h) (f0 := f3) (xok_sub ho [3] rfl (by decide)) t11.2.2 t11.1 ((t11.2.1 - t11.2.1 / (251 : Int32) * (251 : Int32)).toInt64) x hx) rfl (fun x12 _ => ?_)
    exact s_vret (pc := 94) dX11_writeSeal_94 rfl (fun _ _ q => q)
theorem pX11_writeSeal_ok (ho : xok [(11, b0), (7, (b0 + 8)), (0, b2), (9, b3)] h.2.1) (hq_1_0 : f1 0 = some b2) (s0 : RS) (s1 : RS) (s2 : RS) (s3 : RS) (a1 : Int32) (a2 : Int32) : ∀ x, pX11_writeSeal s0 s1 s2 s3 a1 a2 = some x → aMet l 2 yX11_writeSeal cX11_writeSeal 7 none [.ref b0, .ref b3, .int a1, .int a2] (xw [(11, b0, f0, s0), (7, (b0 + 8), f1, s1), (0, b2, f2, s2), (9, b3, f3, s3)] h) none (xw [(11, b0, f0, s0), (7, (b0 + 8), f1, s1), (0, b2, f2, s2), (9, b3, f3, x)] h) := fun x hx => a_meth (ini := false) (y := yX11_writeSeal) (by decide +kernel) (fun q => by cases q) (fun _ => Nat.le_of_ble_eq_true rfl) (pX11_writeSeal_w ho hq_1_0 s0 s1 s2 s3 a1 a2) x hx _ _ ⟨rfl, rfl⟩
end
section
variable {l : Launch} {n0 S0 : Nat} {h : aH} {b0 b2 b3 : Nat} {f0 f1 f2 f3 : Nat → Option Nat} {a0 : Int32}
abbrev MX11_seal : aM := (cX11_seal, RX11, 4, (some .int), false)
def pX11_seal (s0 : RS) (s1 : RS) (s2 : RS) (s3 : RS) (a0 : Int32) (a1 : Int32) : Option (Int32 × RS × RS) :=
  (pX11_isTray a0).bind fun x1 =>
  if x1 = true then
    (pX0_isSet s2 a1).bind fun x2 =>
    if x2 = true then
      g_in a0 4 (
      (pX9_isMissing s3).bind fun x3 =>
      if x3 = true then
        (pX11_refuse s0 (3 : Int32)).bind fun x12 =>
        some (x12.1, x12.2, s3)
      else
        (pJ6_bitCount_0f7a4 a1).bind fun x4 =>
        g_in a0 4 (
        (pX9_spans s3 (0 : Int32) (x4 + (3 : Int32))).bind fun x5 =>
        if x5 = true then
          g_in a0 4 (
          if (s3.1 1) = 0 then
            (pX11_refuse s0 (5 : Int32)).bind fun x10 =>
            some (x10.1, x10.2, s3)
          else
            (pX0_isClosed s2 a1).bind fun x6 =>
            if x6 = true then
              g_in a0 4 (
              (pX11_writeSeal s0 s1 s2 s3 a1 x4).bind fun x7 =>
              (pX11_tell s0 (x4 + (3 : Int32))).bind fun x8 =>
              some (x8.1, x8.2, x7))
            else
              (pX11_refuse s0 (9 : Int32)).bind fun x9 =>
              some (x9.1, x9.2, s3))
        else
          (pX11_refuse s0 (4 : Int32)).bind fun x11 =>
          some (x11.1, x11.2, s3)))
    else
      (pX11_refuse s0 (2 : Int32)).bind fun x13 =>
      some (x13.1, x13.2, s3)
  else
    (pX11_refuse s0 (1 : Int32)).bind fun x14 =>
    some (x14.1, x14.2, s3)
theorem pX11_seal_w (ho : xok [(11, b0), (7, (b0 + 8)), (0, b2), (9, b3)] h.2.1) (hq_1_0 : f1 0 = some b2) (ht_a0 : vp_in a0 4 → b0 + 79 + 2 * a0.toNatClampNeg = b3) (s0 : RS) (s1 : RS) (s2 : RS) (s3 : RS) (a1 : Int32) : aS l 3 MX11_seal n0 S0 (oΦ (fun (x : Int32 × RS × RS) => ((some (.int x.1)), xw [(11, b0, f0, x.2.1), (7, (b0 + 8), f1, s1), (0, b2, f2, s2), (9, b3, f3, x.2.2)] h))) 0 [(0, .ref b0), (1, .int a0), (2, .int a1)] [] (xw [(11, b0, f0, s0), (7, (b0 + 8), f1, s1), (0, b2, f2, s2), (9, b3, f3, s3)] h) (pX11_seal s0 s1 s2 s3 a0 a1) := by
  unfold pX11_seal
  refine s_iload_n (pc := 0) 1 dX11_seal_0 rfl ?_
  refine s_callS (M := MX11_seal) (As := [.int a0]) (st := []) (Ψ := fun (x : Bool) => (some (.int (b2i x)), xw [(11, b0, f0, s0), (7, (b0 + 8), f1, s1), (0, b2, f2, s2), (9, b3, f3, s3)] h)) cs_X11_80 (by decide) (pc := 1) dX11_seal_1 rfl (Nat.le_of_ble_eq_true rfl) (fun x hx => pX11_isTray_ok a0 x hx) rfl (fun x1 _ => ?_)
  refine s_if_neB (tgt := 13) (pc := 4) dX11_seal_4 (by decide) (fun _ => ?_) (fun _ => ?_)
  · refine s_aload_n (pc := 13) 0 dX11_seal_13 rfl ?_
    refine xg_X11_25 0 ho rfl (pc := 14) dX11_seal_14 rfl ?_
    refine xg_X11_174 1 ho rfl (pc := 17) dX11_seal_17 rfl hq_1_0 ?_
    refine s_iload_n (pc := 20) 2 dX11_seal_20 rfl ?_
    refine x_callV (M := MX11_seal) (L := [(11, b0, f0, s0), (7, (b0 + 8), f1, s1), (0, b2, f2, s2), (9, b3, f3, s3)]) (h := h) (j := 2) (As := [.int a1]) (st := []) (A := fun (x : Bool) => some (.int (b2i x))) (Lc := [(0, b2, f2, s2)]) (Lr := fun (x : Bool) => [(0, b2, f2, s2)]) (L2 := fun (x : Bool) => [(11, b0, f0, s0), (7, (b0 + 8), f1, s1), (0, b2, f2, s2), (9, b3, f3, s3)]) cv_X11_241 (by decide) (pc := 21) dX11_seal_21 ho rfl xc0_0 rfl rfl (Nat.le_of_ble_eq_true rfl) (xovs (L := [(11, b0, f0, s0), (7, (b0 + 8), f1, s1), (0, b2, f2, s2), (9, b3, f3, s3)]) (h := h) [(2, (0, b2, f2, s2))] ho ⟨rfl, trivial⟩).1 (fun x => (xovs (L := [(11, b0, f0, s0), (7, (b0 + 8), f1, s1), (0, b2, f2, s2), (9, b3, f3, s3)]) (h := h) [(2, (0, b2, f2, s2))] ho ⟨rfl, trivial⟩).1) (fun x hx => pX0_isSet_ok (h := xw [(11, b0, f0, s0), (7, (b0 + 8), f1, s1), (0, b2, f2, s2), (9, b3, f3, s3)] h) (f0 := f2) (xok_sub ho [2] rfl (by decide)) s2 a1 x hx) rfl (fun x2 _ => ?_)
    refine s_if_neB (tgt := 33) (pc := 24) dX11_seal_24 (by decide) (fun _ => ?_) (fun _ => ?_)
    · refine s_aload_n (pc := 33) 0 dX11_seal_33 rfl ?_
      refine xg_X11_11 0 ho rfl (pc := 34) dX11_seal_34 rfl ?_
      refine s_iload_n (pc := 37) 1 dX11_seal_37 rfl ?_
      refine x_trays 0 ho rfl ht_a0 (pc := 38) dX11_seal_38 ?_
      refine x_callV (M := MX11_seal) (L := [(11, b0, f0, s0), (7, (b0 + 8), f1, s1), (0, b2, f2, s2), (9, b3, f3, s3)]) (h := h) (j := 3) (As := []) (st := []) (A := fun (x : Bool) => some (.int (b2i x))) (Lc := [(9, b3, f3, s3)]) (Lr := fun (x : Bool) => [(9, b3, f3, s3)]) (L2 := fun (x : Bool) => [(11, b0, f0, s0), (7, (b0 + 8), f1, s1), (0, b2, f2, s2), (9, b3, f3, s3)]) cv_X11_84 (by decide) (pc := 39) dX11_seal_39 ho rfl xc0_9 rfl rfl (Nat.le_of_ble_eq_true rfl) (xovs (L := [(11, b0, f0, s0), (7, (b0 + 8), f1, s1), (0, b2, f2, s2), (9, b3, f3, s3)]) (h := h) [(3, (9, b3, f3, s3))] ho ⟨rfl, trivial⟩).1 (fun x => (xovs (L := [(11, b0, f0, s0), (7, (b0 + 8), f1, s1), (0, b2, f2, s2), (9, b3, f3, s3)]) (h := h) [(3, (9, b3, f3, s3))] ho ⟨rfl, trivial⟩).1) (fun x hx => pX9_isMissing_ok (h := xw [(11, b0, f0, s0), (7, (b0 + 8), f1, s1), (0, b2, f2, s2), (9, b3, f3, s3)] h) (f0 := f3) (xok_sub ho [3] rfl (by decide)) s3 x hx) rfl (fun x3 _ => ?_)
      refine s_if_eqB (tgt := 51) (pc := 42) dX11_seal_42 (by decide) (fun _ => ?_) (fun _ => ?_)
      · refine s_aload_n (pc := 45) 0 dX11_seal_45 rfl ?_
        refine s_iconst (v := 3) (pc := 46) dX11_seal_46 (by decide) ?_
        refine x_callV (M := MX11_seal) (L := [(11, b0, f0, s0), (7, (b0 + 8), f1, s1), (0, b2, f2, s2), (9, b3, f3, s3)]) (h := h) (j := 0) (As := [.int 3]) (st := []) (A := fun (x : Int32 × RS) => some (.int x.1)) (Lc := [(11, b0, f0, s0)]) (Lr := fun (x : Int32 × RS) => [(11, b0, f0, x.2)]) (L2 := fun (x : Int32 × RS) => [(11, b0, f0, x.2), (7, (b0 + 8), f1, s1), (0, b2, f2, s2), (9, b3, f3, s3)]) cv_X11_113 (by decide) (pc := 47) dX11_seal_47 ho rfl xc0_11 rfl rfl (Nat.le_of_ble_eq_true rfl) (xovs (L := [(11, b0, f0, s0), (7, (b0 + 8), f1, s1), (0, b2, f2, s2), (9, b3, f3, s3)]) (h := h) [(0, (11, b0, f0, s0))] ho ⟨rfl, trivial⟩).1 (fun x => (xovs (L := [(11, b0, f0, s0), (7, (b0 + 8), f1, s1), (0, b2, f2, s2), (9, b3, f3, s3)]) (h := h) [(0, (11, b0, f0, x.2))] ho ⟨rfl, trivial⟩).1) (fun x hx => pX11_refuse_ok (h := xw [(11, b0, f0, s0), (7, (b0 + 8), f1, s1), (0, b2, f2, s2), (9, b3, f3, s3)] h) (f0 := f0) (xok_sub ho [0] rfl (by decide)) s0 (3 : Int32) x hx) rfl (fun x12 _ => ?_)
        exact s_iret (pc := 50) dX11_seal_50 rfl (fun _ _ q => q)
      · refine s_iload_n (pc := 51) 2 dX11_seal_51 rfl ?_
        refine s_callS (M := MX11_seal) (As := [.int a1]) (st := []) (Ψ := fun (x : Int32) => (some (.int x), xw [(11, b0, f0, s0), (7, (b0 + 8), f1, s1), (0, b2, f2, s2), (9, b3, f3, s3)] h)) cs_X11_203 (by decide) (pc := 52) dX11_seal_52 rfl (Nat.le_of_ble_eq_true rfl) (fun x hx => pJ6_bitCount_0f7a4_ok a1 x hx) rfl (fun x4 _ => ?_)
        refine s_istore_n (lv' := [(3, .int x4), (0, .ref b0), (1, .int a0), (2, .int a1)]) (pc := 55) dX11_seal_55 (by decide) rfl ?_
        refine s_aload_n (pc := 56) 1 dX11_seal_56 rfl ?_
        refine xg_X11_11 0 ho rfl (pc := 57) dX11_seal_57 rfl ?_
        refine s_iload_n (pc := 60) 2 dX11_seal_60 rfl ?_
        refine x_trays 0 ho rfl ht_a0 (pc := 61) dX11_seal_61 ?_
        refine s_iconst (v := 0) (pc := 62) dX11_seal_62 (by decide) ?_
        refine s_iload_n (pc := 63) 0 dX11_seal_63 rfl ?_
        refine s_iconst (v := 3) (pc := 64) dX11_seal_64 (by decide) ?_
        refine s_iadd (pc := 65) dX11_seal_65 ?_
        refine x_callV (M := MX11_seal) (L := [(11, b0, f0, s0), (7, (b0 + 8), f1, s1), (0, b2, f2, s2), (9, b3, f3, s3)]) (h := h) (j := 3) (As := [.int 0, .int (x4 + (3 : Int32))]) (st := []) (A := fun (x : Bool) => some (.int (b2i x))) (Lc := [(9, b3, f3, s3)]) (Lr := fun (x : Bool) => [(9, b3, f3, s3)]) (L2 := fun (x : Bool) => [(11, b0, f0, s0), (7, (b0 + 8), f1, s1), (0, b2, f2, s2), (9, b3, f3, s3)]) cv_X11_88 (by decide) (pc := 66) dX11_seal_66 ho rfl xc0_9 rfl rfl (Nat.le_of_ble_eq_true rfl) (xovs (L := [(11, b0, f0, s0), (7, (b0 + 8), f1, s1), (0, b2, f2, s2), (9, b3, f3, s3)]) (h := h) [(3, (9, b3, f3, s3))] ho ⟨rfl, trivial⟩).1 (fun x => (xovs (L := [(11, b0, f0, s0), (7, (b0 + 8), f1, s1), (0, b2, f2, s2), (9, b3, f3, s3)]) (h := h) [(3, (9, b3, f3, s3))] ho ⟨rfl, trivial⟩).1) (fun x hx => pX9_spans_ok (h := xw [(11, b0, f0, s0), (7, (b0 + 8), f1, s1), (0, b2, f2, s2), (9, b3, f3, s3)] h) (f0 := f3) (xok_sub ho [3] rfl (by decide)) s3 (0 : Int32) (x4 + (3 : Int32)) x hx) rfl (fun x5 _ => ?_)
        refine s_if_neB (tgt := 78) (pc := 69) dX11_seal_69 (by decide) (fun _ => ?_) (fun _ => ?_)
        · refine s_aload_n (pc := 78) 1 dX11_seal_78 rfl ?_
          refine xg_X11_11 0 ho rfl (pc := 79) dX11_seal_79 rfl ?_
          refine s_iload_n (pc := 82) 2 dX11_seal_82 rfl ?_
          refine x_trays 0 ho rfl ht_a0 (pc := 83) dX11_seal_83 ?_
          refine xg_X11_125 3 ho rfl (pc := 84) dX11_seal_84 rfl ?_
          refine s_if_ne (tgt := 96) (pc := 87) dX11_seal_87 (by decide) (fun _ => ?_) (fun _ => ?_)
          · refine s_aload_n (pc := 90) 1 dX11_seal_90 rfl ?_
            refine s_iconst (v := 5) (pc := 91) dX11_seal_91 (by decide) ?_
            refine x_callV (M := MX11_seal) (L := [(11, b0, f0, s0), (7, (b0 + 8), f1, s1), (0, b2, f2, s2), (9, b3, f3, s3)]) (h := h) (j := 0) (As := [.int 5]) (st := []) (A := fun (x : Int32 × RS) => some (.int x.1)) (Lc := [(11, b0, f0, s0)]) (Lr := fun (x : Int32 × RS) => [(11, b0, f0, x.2)]) (L2 := fun (x : Int32 × RS) => [(11, b0, f0, x.2), (7, (b0 + 8), f1, s1), (0, b2, f2, s2), (9, b3, f3, s3)]) cv_X11_113 (by decide) (pc := 92) dX11_seal_92 ho rfl xc0_11 rfl rfl (Nat.le_of_ble_eq_true rfl) (xovs (L := [(11, b0, f0, s0), (7, (b0 + 8), f1, s1), (0, b2, f2, s2), (9, b3, f3, s3)]) (h := h) [(0, (11, b0, f0, s0))] ho ⟨rfl, trivial⟩).1 (fun x => (xovs (L := [(11, b0, f0, s0), (7, (b0 + 8), f1, s1), (0, b2, f2, s2), (9, b3, f3, s3)]) (h := h) [(0, (11, b0, f0, x.2))] ho ⟨rfl, trivial⟩).1) (fun x hx => pX11_refuse_ok (h := xw [(11, b0, f0, s0), (7, (b0 + 8), f1, s1), (0, b2, f2, s2), (9, b3, f3, s3)] h) (f0 := f0) (xok_sub ho [0] rfl (by decide)) s0 (5 : Int32) x hx) rfl (fun x10 _ => ?_)
            exact s_iret (pc := 95) dX11_seal_95 rfl (fun _ _ q => q)
          · refine s_aload_n (pc := 96) 1 dX11_seal_96 rfl ?_
            refine xg_X11_25 0 ho rfl (pc := 97) dX11_seal_97 rfl ?_
            refine xg_X11_174 1 ho rfl (pc := 100) dX11_seal_100 rfl hq_1_0 ?_
            refine s_iload_n (pc := 103) 3 dX11_seal_103 rfl ?_
            refine x_callV (M := MX11_seal) (L := [(11, b0, f0, s0), (7, (b0 + 8), f1, s1), (0, b2, f2, s2), (9, b3, f3, s3)]) (h := h) (j := 2) (As := [.int a1]) (st := []) (A := fun (x : Bool) => some (.int (b2i x))) (Lc := [(0, b2, f2, s2)]) (Lr := fun (x : Bool) => [(0, b2, f2, s2)]) (L2 := fun (x : Bool) => [(11, b0, f0, s0), (7, (b0 + 8), f1, s1), (0, b2, f2, s2), (9, b3, f3, s3)]) cv_X11_244 (by decide) (pc := 104) dX11_seal_104 ho rfl xc0_0 rfl rfl (Nat.le_of_ble_eq_true rfl) (xovs (L := [(11, b0, f0, s0), (7, (b0 + 8), f1, s1), (0, b2, f2, s2), (9, b3, f3, s3)]) (h := h) [(2, (0, b2, f2, s2))] ho ⟨rfl, trivial⟩).1 (fun x => (xovs (L := [(11, b0, f0, s0), (7, (b0 + 8), f1, s1), (0, b2, f2, s2), (9, b3, f3, s3)]) (h := h) [(2, (0, b2, f2, s2))] ho ⟨rfl, trivial⟩).1) (fun x hx => pX0_isClosed_ok (h := xw [(11, b0, f0, s0), (7, (b0 + 8), f1, s1), (0, b2, f2, s2), (9, b3, f3, s3)] h) (f0 := f2) (xok_sub ho [2] rfl (by decide)) s2 a1 x hx) rfl (fun x6 _ => ?_)
            refine s_if_neB (tgt := 117) (pc := 107) dX11_seal_107 (by decide) (fun _ => ?_) (fun _ => ?_)
            · refine s_aload_n (pc := 117) 1 dX11_seal_117 rfl ?_
              refine s_aload_n (pc := 118) 1 dX11_seal_118 rfl ?_
              refine xg_X11_11 0 ho rfl (pc := 119) dX11_seal_119 rfl ?_
              refine s_iload_n (pc := 122) 2 dX11_seal_122 rfl ?_
              refine x_trays 0 ho rfl ht_a0 (pc := 123) dX11_seal_123 ?_
              refine s_iload_n (pc := 124) 3 dX11_seal_124 rfl ?_
              refine s_iload_n (pc := 125) 0 dX11_seal_125 rfl ?_
              refine x_callV (M := MX11_seal) (L := [(11, b0, f0, s0), (7, (b0 + 8), f1, s1), (0, b2, f2, s2), (9, b3, f3, s3)]) (h := h) (j := 0) (As := [.ref b3, .int a1, .int x4]) (st := []) (A := fun (x : RS) => none) (Lc := [(11, b0, f0, s0), (7, (b0 + 8), f1, s1), (0, b2, f2, s2), (9, b3, f3, s3)]) (Lr := fun (x : RS) => [(11, b0, f0, s0), (7, (b0 + 8), f1, s1), (0, b2, f2, s2), (9, b3, f3, x)]) (L2 := fun (x : RS) => [(11, b0, f0, s0), (7, (b0 + 8), f1, s1), (0, b2, f2, s2), (9, b3, f3, x)]) cv_X11_406 (by decide) (pc := 126) dX11_seal_126 ho rfl xc0_11 rfl rfl (Nat.le_of_ble_eq_true rfl) (xovs (L := [(11, b0, f0, s0), (7, (b0 + 8), f1, s1), (0, b2, f2, s2), (9, b3, f3, s3)]) (h := h) [(0, (11, b0, f0, s0)), (1, (7, (b0 + 8), f1, s1)), (2, (0, b2, f2, s2)), (3, (9, b3, f3, s3))] ho ⟨rfl, rfl, rfl, rfl, trivial⟩).1 (fun x => (xovs (L := [(11, b0, f0, s0), (7, (b0 + 8), f1, s1), (0, b2, f2, s2), (9, b3, f3, s3)]) (h := h) [(0, (11, b0, f0, s0)), (1, (7, (b0 + 8), f1, s1)), (2, (0, b2, f2, s2)), (3, (9, b3, f3, x))] ho ⟨rfl, rfl, rfl, rfl, trivial⟩).1) (fun x hx => pX11_writeSeal_ok (h := xw [(11, b0, f0, s0), (7, (b0 + 8), f1, s1), (0, b2, f2, s2), (9, b3, f3, s3)] h) (f0 := f0) (f1 := f1) (f2 := f2) (f3 := f3) (xok_sub ho [0, 1, 2, 3] rfl (by decide)) hq_1_0 s0 s1 s2 s3 a1 x4 x hx) rfl (fun x7 _ => ?_)
              refine s_aload_n (pc := 129) 1 dX11_seal_129 rfl ?_
              refine s_iload_n (pc := 130) 0 dX11_seal_130 rfl ?_
              refine s_iconst (v := 3) (pc := 131) dX11_seal_131 (by decide) ?_
              refine s_iadd (pc := 132) dX11_seal_132 ?_
              refine x_callV (M := MX11_seal) (L := [(11, b0, f0, s0), (7, (b0 + 8), f1, s1), (0, b2, f2, s2), (9, b3, f3, x7)]) (h := h) (j := 0) (As := [.int (x4 + (3 : Int32))]) (st := []) (A := fun (x : Int32 × RS) => some (.int x.1)) (Lc := [(11, b0, f0, s0)]) (Lr := fun (x : Int32 × RS) => [(11, b0, f0, x.2)]) (L2 := fun (x : Int32 × RS) => [(11, b0, f0, x.2), (7, (b0 + 8), f1, s1), (0, b2, f2, s2), (9, b3, f3, x7)]) cv_X11_169 (by decide) (pc := 133) dX11_seal_133 ho rfl xc0_11 rfl rfl (Nat.le_of_ble_eq_true rfl) (xovs (L := [(11, b0, f0, s0), (7, (b0 + 8), f1, s1), (0, b2, f2, s2), (9, b3, f3, x7)]) (h := h) [(0, (11, b0, f0, s0))] ho ⟨rfl, trivial⟩).1 (fun x => (xovs (L := [(11, b0, f0, s0), (7, (b0 + 8), f1, s1), (0, b2, f2, s2), (9, b3, f3, x7)]) (h := h) [(0, (11, b0, f0, x.2))] ho ⟨rfl, trivial⟩).1) (fun x hx => pX11_tell_ok (h := xw [(11, b0, f0, s0), (7, (b0 + 8), f1, s1), (0, b2, f2, s2), (9, b3, f3, x7)] h) (f0 := f0) (xok_sub ho [0] rfl (by decide)) s0 (x4 + (3 : Int32)) x hx) rfl (fun x8 _ => ?_)
              exact s_iret (pc := 136) dX11_seal_136 rfl (fun _ _ q => q)
            · refine s_aload_n (pc := 110) 1 dX11_seal_110 rfl ?_
              refine s_bipush (v := 9) (pc := 111) dX11_seal_111 (by decide) ?_
              refine x_callV (M := MX11_seal) (L := [(11, b0, f0, s0), (7, (b0 + 8), f1, s1), (0, b2, f2, s2), (9, b3, f3, s3)]) (h := h) (j := 0) (As := [.int 9]) (st := []) (A := fun (x : Int32 × RS) => some (.int x.1)) (Lc := [(11, b0, f0, s0)]) (Lr := fun (x : Int32 × RS) => [(11, b0, f0, x.2)]) (L2 := fun (x : Int32 × RS) => [(11, b0, f0, x.2), (7, (b0 + 8), f1, s1), (0, b2, f2, s2), (9, b3, f3, s3)]) cv_X11_113 (by decide) (pc := 113) dX11_seal_113 ho rfl xc0_11 rfl rfl (Nat.le_of_ble_eq_true rfl) (xovs (L := [(11, b0, f0, s0), (7, (b0 + 8), f1, s1), (0, b2, f2, s2), (9, b3, f3, s3)]) (h := h) [(0, (11, b0, f0, s0))] ho ⟨rfl, trivial⟩).1 (fun x => (xovs (L := [(11, b0, f0, s0), (7, (b0 + 8), f1, s1), (0, b2, f2, s2), (9, b3, f3, s3)]) (h := h) [(0, (11, b0, f0, x.2))] ho ⟨rfl, trivial⟩).1) (fun x hx => pX11_refuse_ok (h := xw [(11, b0, f0, s0), (7, (b0 + 8), f1, s1), (0, b2, f2, s2), (9, b3, f3, s3)] h) (f0 := f0) (xok_sub ho [0] rfl (by decide)) s0 (9 : Int32) x hx) rfl (fun x9 _ => ?_)
              exact s_iret (pc := 116) dX11_seal_116 rfl (fun _ _ q => q)
        · refine s_aload_n (pc := 72) 1 dX11_seal_72 rfl ?_
          refine s_iconst (v := 4) (pc := 73) dX11_seal_73 (by decide) ?_
          refine x_callV (M := MX11_seal) (L := [(11, b0, f0, s0), (7, (b0 + 8), f1, s1), (0, b2, f2, s2), (9, b3, f3, s3)]) (h := h) (j := 0) (As := [.int 4]) (st := []) (A := fun (x : Int32 × RS) => some (.int x.1)) (Lc := [(11, b0, f0, s0)]) (Lr := fun (x : Int32 × RS) => [(11, b0, f0, x.2)]) (L2 := fun (x : Int32 × RS) => [(11, b0, f0, x.2), (7, (b0 + 8), f1, s1), (0, b2, f2, s2), (9, b3, f3, s3)]) cv_X11_113 (by decide) (pc := 74) dX11_seal_74 ho rfl xc0_11 rfl rfl (Nat.le_of_ble_eq_true rfl) (xovs (L := [(11, b0, f0, s0), (7, (b0 + 8), f1, s1), (0, b2, f2, s2), (9, b3, f3, s3)]) (h := h) [(0, (11, b0, f0, s0))] ho ⟨rfl, trivial⟩).1 (fun x => (xovs (L := [(11, b0, f0, s0), (7, (b0 + 8), f1, s1), (0, b2, f2, s2), (9, b3, f3, s3)]) (h := h) [(0, (11, b0, f0, x.2))] ho ⟨rfl, trivial⟩).1) (fun x hx => pX11_refuse_ok (h := xw [(11, b0, f0, s0), (7, (b0 + 8), f1, s1), (0, b2, f2, s2), (9, b3, f3, s3)] h) (f0 := f0) (xok_sub ho [0] rfl (by decide)) s0 (4 : Int32) x hx) rfl (fun x11 _ => ?_)
          exact s_iret (pc := 77) dX11_seal_77 rfl (fun _ _ q => q)
    · refine s_aload_n (pc := 27) 0 dX11_seal_27 rfl ?_
      refine s_iconst (v := 2) (pc := 28) dX11_seal_28 (by decide) ?_
      refine x_callV (M := MX11_seal) (L := [(11, b0, f0, s0), (7, (b0 + 8), f1, s1), (0, b2, f2, s2), (9, b3, f3, s3)]) (h := h) (j := 0) (As := [.int 2]) (st := []) (A := fun (x : Int32 × RS) => some (.int x.1)) (Lc := [(11, b0, f0, s0)]) (Lr := fun (x : Int32 × RS) => [(11, b0, f0, x.2)]) (L2 := fun (x : Int32 × RS) => [(11, b0, f0, x.2), (7, (b0 + 8), f1, s1), (0, b2, f2, s2), (9, b3, f3, s3)]) cv_X11_113 (by decide) (pc := 29) dX11_seal_29 ho rfl xc0_11 rfl rfl (Nat.le_of_ble_eq_true rfl) (xovs (L := [(11, b0, f0, s0), (7, (b0 + 8), f1, s1), (0, b2, f2, s2), (9, b3, f3, s3)]) (h := h) [(0, (11, b0, f0, s0))] ho ⟨rfl, trivial⟩).1 (fun x => (xovs (L := [(11, b0, f0, s0), (7, (b0 + 8), f1, s1), (0, b2, f2, s2), (9, b3, f3, s3)]) (h := h) [(0, (11, b0, f0, x.2))] ho ⟨rfl, trivial⟩).1) (fun x hx => pX11_refuse_ok (h := xw [(11, b0, f0, s0), (7, (b0 + 8), f1, s1), (0, b2, f2, s2), (9, b3, f3, s3)] h) (f0 := f0) (xok_sub ho [0] rfl (by decide)) s0 (2 : Int32) x hx) rfl (fun x13 _ => ?_)
      exact s_iret (pc := 32) dX11_seal_32 rfl (fun _ _ q => q)
  · refine s_aload_n (pc := 7) 0 dX11_seal_7 rfl ?_
    refine s_iconst (v := 1) (pc := 8) dX11_seal_8 (by decide) ?_
    refine x_callV (M := MX11_seal) (L := [(11, b0, f0, s0), (7, (b0 + 8), f1, s1), (0, b2, f2, s2), (9, b3, f3, s3)]) (h := h) (j := 0) (As := [.int 1]) (st := []) (A := fun (x : Int32 × RS) => some (.int x.1)) (Lc := [(11, b0, f0, s0)]) (Lr := fun (x : Int32 × RS) => [(11, b0, f0, x.2)]) (L2 := fun (x : Int32 × RS) => [(11, b0, f0, x.2), (7, (b0 + 8), f1, s1), (0, b2, f2, s2), (9, b3, f3, s3)]) cv_X11_113 (by decide) (pc := 9) dX11_seal_9 ho rfl xc0_11 rfl rfl (Nat.le_of_ble_eq_true rfl) (xovs (L := [(11, b0, f0, s0), (7, (b0 + 8), f1, s1), (0, b2, f2, s2), (9, b3, f3, s3)]) (h := h) [(0, (11, b0, f0, s0))] ho ⟨rfl, trivial⟩).1 (fun x => (xovs (L := [(11, b0, f0, s0), (7, (b0 + 8), f1, s1), (0, b2, f2, s2), (9, b3, f3, s3)]) (h := h) [(0, (11, b0, f0, x.2))] ho ⟨rfl, trivial⟩).1) (fun x hx => pX11_refuse_ok (h := xw [(11, b0, f0, s0), (7, (b0 + 8), f1, s1), (0, b2, f2, s2), (9, b3, f3, s3)] h) (f0 := f0) (xok_sub ho [0] rfl (by decide)) s0 (1 : Int32) x hx) rfl (fun x14 _ => ?_)
    exact s_iret (pc := 12) dX11_seal_12 rfl (fun _ _ q => q)
theorem pX11_seal_ok (ho : xok [(11, b0), (7, (b0 + 8)), (0, b2), (9, b3)] h.2.1) (hq_1_0 : f1 0 = some b2) (ht_a0 : vp_in a0 4 → b0 + 79 + 2 * a0.toNatClampNeg = b3) (s0 : RS) (s1 : RS) (s2 : RS) (s3 : RS) (a1 : Int32) : ∀ x, pX11_seal s0 s1 s2 s3 a0 a1 = some x → aMet l 3 yX11_seal cX11_seal 4 (some .int) [.ref b0, .int a0, .int a1] (xw [(11, b0, f0, s0), (7, (b0 + 8), f1, s1), (0, b2, f2, s2), (9, b3, f3, s3)] h) (some (.int x.1)) (xw [(11, b0, f0, x.2.1), (7, (b0 + 8), f1, s1), (0, b2, f2, s2), (9, b3, f3, x.2.2)] h) := fun x hx => a_meth (ini := false) (y := yX11_seal) (by decide +kernel) (fun q => by cases q) (fun _ => Nat.le_of_ble_eq_true rfl) (pX11_seal_w ho hq_1_0 ht_a0 s0 s1 s2 s3 a1) x hx _ _ ⟨rfl, rfl⟩
end
section
variable {l : Launch} {n0 S0 : Nat} {h : aH} {b0 b2 b3 : Nat} {f0 f1 f2 f3 : Nat → Option Nat}
abbrev MX11_readSeal : aM := (cX11_readSeal, RX11, 7, (some .int), false)
def X11_readSeal_x13 (l : Launch) (n0 S0 : Nat) (h : aH) (b0 : Nat) (b2 : Nat) (b3 : Nat) (f0 : Nat → Option Nat) (f1 : Nat → Option Nat) (f2 : Nat → Option Nat) (f3 : Nat → Option Nat) (v2 : Int32) (s0 : RS) (s1 : RS) (s2 : RS) (s3 : RS) : (Int32 × Int32 × Int32) → Option Value → aH → Prop := fun (x : Int32 × Int32 × Int32) r h' => aEv l 3 MX11_readSeal n0 S0 80 [(0, .ref b0), (1, .ref b3), (2, .int v2), (3, .int x.1), (4, .int x.2.1), (5, .int x.2.2)] [] (xw [(11, b0, f0, s0), (7, (b0 + 8), f1, s1), (0, b2, f2, s2), (9, b3, f3, s3)] h) r h'
def X11_readSeal_j74 (v2 : Int32) (v3 : Int32) (v4 : Int32) (v5 : Int32) (v6 : Int32) (s0 : RS) (s1 : RS) (s2 : RS) (s3 : RS) : Option ((Int32 × Int32 × Int32 × Int32) ⊕ (Int32 × Int32 × Int32)) :=
  thn (v6 + 1) fun x4 =>
  some (.inl (v3, v4, v5, x4))
theorem X11_readSeal_j74_ok (ho : xok [(11, b0), (7, (b0 + 8)), (0, b2), (9, b3)] h.2.1) (hq_1_0 : f1 0 = some b2) (v2 : Int32) (v3 : Int32) (v4 : Int32) (v5 : Int32) (v6 : Int32) (s0 : RS) (s1 : RS) (s2 : RS) (s3 : RS) : aS l 3 MX11_readSeal n0 S0 (a_LΦ (X11_readSeal_x13 l n0 S0 h b0 b2 b3 f0 f1 f2 f3 v2 s0 s1 s2 s3) l 3 MX11_readSeal n0 S0 13 (fun (q : Int32 × Int32 × Int32 × Int32) => [(0, .ref b0), (1, .ref b3), (2, .int v2), (3, .int q.1), (4, .int q.2.1), (5, .int q.2.2.1), (6, .int q.2.2.2)]) (fun _ => []) (fun (q : Int32 × Int32 × Int32 × Int32) => xw [(11, b0, f0, s0), (7, (b0 + 8), f1, s1), (0, b2, f2, s2), (9, b3, f3, s3)] h)) 74 [(0, .ref b0), (1, .ref b3), (2, .int v2), (3, .int v3), (4, .int v4), (5, .int v5), (6, .int v6)] [] (xw [(11, b0, f0, s0), (7, (b0 + 8), f1, s1), (0, b2, f2, s2), (9, b3, f3, s3)] h) (X11_readSeal_j74 v2 v3 v4 v5 v6 s0 s1 s2 s3) := by
  unfold X11_readSeal_j74
  refine s_iincT (pc := 74) 6 (lv' := fun x4 => [(6, .int x4), (0, .ref b0), (1, .ref b3), (2, .int v2), (3, .int v3), (4, .int v4), (5, .int v5)]) dX11_readSeal_74 rfl rfl (by decide) (fun _ => rfl) (fun x4 => ?_)
  refine s_goto (tgt := 13) (pc := 77) dX11_readSeal_77 (by decide) ?_
  refine s_sub [1, 2, 3, 4, 5, 6, 0] rfl ?_
  exact s_ev (fun _ _ q => q)
def X11_readSeal_b13 (v2 : Int32) (v3 : Int32) (v4 : Int32) (v5 : Int32) (v6 : Int32) (s0 : RS) (s1 : RS) (s2 : RS) (s3 : RS) : Option ((Int32 × Int32 × Int32 × Int32) ⊕ (Int32 × Int32 × Int32)) :=
  if (s2.1 1) ≤ v6 then
    some (.inr (v3, v4, v5))
  else
    if (v2 + (2 : Int32)) ≤ v4 then
      some (.inr (v3, v4, v5))
    else
      (pX9_get s3 v4).bind fun x2 =>
      (pX11_sealOf s0 s1 s2 v6).bind fun x3 =>
      if x2 = x3.toInt64 then
        thn (v3 ||| ((1 : Int32) <<< (v6 &&& 31))) fun x5 =>
        (pX11_sealOf s0 s1 s2 v6).bind fun x6 =>
        thn (v5 + x6) fun x7 =>
        thn (v4 + 1) fun x8 =>
        X11_readSeal_j74 v2 x5 x8 x7 v6 s0 s1 s2 s3
      else
        X11_readSeal_j74 v2 v3 v4 v5 v6 s0 s1 s2 s3
theorem X11_readSeal_b13_ok (ho : xok [(11, b0), (7, (b0 + 8)), (0, b2), (9, b3)] h.2.1) (hq_1_0 : f1 0 = some b2) (v2 : Int32) (v3 : Int32) (v4 : Int32) (v5 : Int32) (v6 : Int32) (s0 : RS) (s1 : RS) (s2 : RS) (s3 : RS) : aS l 3 MX11_readSeal n0 S0 (a_LΦ (X11_readSeal_x13 l n0 S0 h b0 b2 b3 f0 f1 f2 f3 v2 s0 s1 s2 s3) l 3 MX11_readSeal n0 S0 13 (fun (q : Int32 × Int32 × Int32 × Int32) => [(0, .ref b0), (1, .ref b3), (2, .int v2), (3, .int q.1), (4, .int q.2.1), (5, .int q.2.2.1), (6, .int q.2.2.2)]) (fun _ => []) (fun (q : Int32 × Int32 × Int32 × Int32) => xw [(11, b0, f0, s0), (7, (b0 + 8), f1, s1), (0, b2, f2, s2), (9, b3, f3, s3)] h)) 13 [(0, .ref b0), (1, .ref b3), (2, .int v2), (3, .int v3), (4, .int v4), (5, .int v5), (6, .int v6)] [] (xw [(11, b0, f0, s0), (7, (b0 + 8), f1, s1), (0, b2, f2, s2), (9, b3, f3, s3)] h) (X11_readSeal_b13 v2 v3 v4 v5 v6 s0 s1 s2 s3) := by
  unfold X11_readSeal_b13
  refine s_iload (pc := 13) 6 dX11_readSeal_13 rfl ?_
  refine s_aload_n (pc := 15) 0 dX11_readSeal_15 rfl ?_
  refine xg_X11_25 0 ho rfl (pc := 16) dX11_readSeal_16 rfl ?_
  refine xg_X11_174 1 ho rfl (pc := 19) dX11_readSeal_19 rfl hq_1_0 ?_
  refine xg_X11_164 2 ho rfl (pc := 22) dX11_readSeal_22 rfl ?_
  refine s_icmp_ge (tgt := 80) (pc := 25) dX11_readSeal_25 (by decide) (fun _ => ?_) (fun _ => ?_)
  · refine s_sub [0, 1, 2, 3, 4, 5] rfl ?_
    exact s_ev (fun _ _ q => q)
  · refine s_iload (pc := 28) 4 dX11_readSeal_28 rfl ?_
    refine s_iload_n (pc := 30) 2 dX11_readSeal_30 rfl ?_
    refine s_iconst (v := 2) (pc := 31) dX11_readSeal_31 (by decide) ?_
    refine s_iadd (pc := 32) dX11_readSeal_32 ?_
    refine s_icmp_ge (tgt := 80) (pc := 33) dX11_readSeal_33 (by decide) (fun _ => ?_) (fun _ => ?_)
    · refine s_sub [0, 1, 2, 3, 4, 5] rfl ?_
      exact s_ev (fun _ _ q => q)
    · refine s_aload_n (pc := 36) 1 dX11_readSeal_36 rfl ?_
      refine s_iload (pc := 37) 4 dX11_readSeal_37 rfl ?_
      refine x_callV (M := MX11_readSeal) (L := [(11, b0, f0, s0), (7, (b0 + 8), f1, s1), (0, b2, f2, s2), (9, b3, f3, s3)]) (h := h) (j := 3) (As := [.int v4]) (st := []) (A := fun (x : Int64) => some (.long x)) (Lc := [(9, b3, f3, s3)]) (Lr := fun (x : Int64) => [(9, b3, f3, s3)]) (L2 := fun (x : Int64) => [(11, b0, f0, s0), (7, (b0 + 8), f1, s1), (0, b2, f2, s2), (9, b3, f3, s3)]) cv_X11_117 (by decide) (pc := 39) dX11_readSeal_39 ho rfl xc0_9 rfl rfl (Nat.le_of_ble_eq_true rfl) (xovs (L := [(11, b0, f0, s0), (7, (b0 + 8), f1, s1), (0, b2, f2, s2), (9, b3, f3, s3)]) (h := h) [(3, (9, b3, f3, s3))] ho ⟨rfl, trivial⟩).1 (fun x => (xovs (L := [(11, b0, f0, s0), (7, (b0 + 8), f1, s1), (0, b2, f2, s2), (9, b3, f3, s3)]) (h := h) [(3, (9, b3, f3, s3))] ho ⟨rfl, trivial⟩).1) (fun x hx => pX9_get_ok (h := xw [(11, b0, f0, s0), (7, (b0 + 8), f1, s1), (0, b2, f2, s2), (9, b3, f3, s3)] h) (f0 := f3) (xok_sub ho [3] rfl (by decide)) s3 v4 x hx) rfl (fun x2 _ => ?_)
      refine s_aload_n (pc := 42) 0 dX11_readSeal_42 rfl ?_
      refine s_iload (pc := 43) 6 dX11_readSeal_43 rfl ?_
      refine x_callV (M := MX11_readSeal) (L := [(11, b0, f0, s0), (7, (b0 + 8), f1, s1), (0, b2, f2, s2), (9, b3, f3, s3)]) (h := h) (j := 0) (As := [.int v6]) (st := [.long x2]) (A := fun (x : Int32) => some (.int x)) (Lc := [(11, b0, f0, s0), (7, (b0 + 8), f1, s1), (0, b2, f2, s2)]) (Lr := fun (x : Int32) => [(11, b0, f0, s0), (7, (b0 + 8), f1, s1), (0, b2, f2, s2)]) (L2 := fun (x : Int32) => [(11, b0, f0, s0), (7, (b0 + 8), f1, s1), (0, b2, f2, s2), (9, b3, f3, s3)]) cv_X11_410 (by decide) (pc := 45) dX11_readSeal_45 ho rfl xc0_11 rfl rfl (Nat.le_of_ble_eq_true rfl) (xovs (L := [(11, b0, f0, s0), (7, (b0 + 8), f1, s1), (0, b2, f2, s2), (9, b3, f3, s3)]) (h := h) [(0, (11, b0, f0, s0)), (1, (7, (b0 + 8), f1, s1)), (2, (0, b2, f2, s2))] ho ⟨rfl, rfl, rfl, trivial⟩).1 (fun x => (xovs (L := [(11, b0, f0, s0), (7, (b0 + 8), f1, s1), (0, b2, f2, s2), (9, b3, f3, s3)]) (h := h) [(0, (11, b0, f0, s0)), (1, (7, (b0 + 8), f1, s1)), (2, (0, b2, f2, s2))] ho ⟨rfl, rfl, rfl, trivial⟩).1) (fun x hx => pX11_sealOf_ok (h := xw [(11, b0, f0, s0), (7, (b0 + 8), f1, s1), (0, b2, f2, s2), (9, b3, f3, s3)] h) (f0 := f0) (f1 := f1) (f2 := f2) (xok_sub ho [0, 1, 2] rfl (by decide)) hq_1_0 s0 s1 s2 v6 x hx) rfl (fun x3 _ => ?_)
      refine s_i2l (pc := 48) dX11_readSeal_48 ?_
      refine s_lcmp (pc := 49) dX11_readSeal_49 ?_
      refine s_ifL (lg_cmp_z _ _) (s_if_ne (tgt := 74) (pc := 50) dX11_readSeal_50 (by decide) (fun _ => ?_) (fun _ => ?_))
      · refine s_iload_n (pc := 53) 3 dX11_readSeal_53 rfl ?_
        refine s_iconst (v := 1) (pc := 54) dX11_readSeal_54 (by decide) ?_
        refine s_iload (pc := 55) 6 dX11_readSeal_55 rfl ?_
        refine s_ishl (pc := 57) dX11_readSeal_57 ?_
        refine s_ior (pc := 58) dX11_readSeal_58 ?_
        refine s_istore_nT (lv' := fun x5 => [(3, .int x5), (0, .ref b0), (1, .ref b3), (2, .int v2), (4, .int v4), (5, .int v5), (6, .int v6)]) (pc := 59) dX11_readSeal_59 (by decide) (fun _ => rfl) (fun x5 => ?_)
        refine s_iload (pc := 60) 5 dX11_readSeal_60 rfl ?_
        refine s_aload_n (pc := 62) 1 dX11_readSeal_62 rfl ?_
        refine s_iload (pc := 63) 6 dX11_readSeal_63 rfl ?_
        refine x_callV (M := MX11_readSeal) (L := [(11, b0, f0, s0), (7, (b0 + 8), f1, s1), (0, b2, f2, s2), (9, b3, f3, s3)]) (h := h) (j := 0) (As := [.int v6]) (st := [.int v5]) (A := fun (x : Int32) => some (.int x)) (Lc := [(11, b0, f0, s0), (7, (b0 + 8), f1, s1), (0, b2, f2, s2)]) (Lr := fun (x : Int32) => [(11, b0, f0, s0), (7, (b0 + 8), f1, s1), (0, b2, f2, s2)]) (L2 := fun (x : Int32) => [(11, b0, f0, s0), (7, (b0 + 8), f1, s1), (0, b2, f2, s2), (9, b3, f3, s3)]) cv_X11_410 (by decide) (pc := 65) dX11_readSeal_65 ho rfl xc0_11 rfl rfl (Nat.le_of_ble_eq_true rfl) (xovs (L := [(11, b0, f0, s0), (7, (b0 + 8), f1, s1), (0, b2, f2, s2), (9, b3, f3, s3)]) (h := h) [(0, (11, b0, f0, s0)), (1, (7, (b0 + 8), f1, s1)), (2, (0, b2, f2, s2))] ho ⟨rfl, rfl, rfl, trivial⟩).1 (fun x => (xovs (L := [(11, b0, f0, s0), (7, (b0 + 8), f1, s1), (0, b2, f2, s2), (9, b3, f3, s3)]) (h := h) [(0, (11, b0, f0, s0)), (1, (7, (b0 + 8), f1, s1)), (2, (0, b2, f2, s2))] ho ⟨rfl, rfl, rfl, trivial⟩).1) (fun x hx => pX11_sealOf_ok (h := xw [(11, b0, f0, s0), (7, (b0 + 8), f1, s1), (0, b2, f2, s2), (9, b3, f3, s3)] h) (f0 := f0) (f1 := f1) (f2 := f2) (xok_sub ho [0, 1, 2] rfl (by decide)) hq_1_0 s0 s1 s2 v6 x hx) rfl (fun x6 _ => ?_)
        refine s_iadd (pc := 68) dX11_readSeal_68 ?_
        refine s_istoreT (lv' := fun x7 => [(5, .int x7), (3, .int x5), (0, .ref b0), (1, .ref b3), (2, .int v2), (4, .int v4), (6, .int v6)]) (pc := 69) dX11_readSeal_69 (by decide) (fun _ => rfl) (fun x7 => ?_)
        refine s_iincT (pc := 71) 5 (lv' := fun x8 => [(4, .int x8), (5, .int x7), (3, .int x5), (0, .ref b0), (1, .ref b3), (2, .int v2), (6, .int v6)]) dX11_readSeal_71 rfl rfl (by decide) (fun _ => rfl) (fun x8 => ?_)
        refine s_sub [3, 4, 5, 2, 0, 1, 6] rfl ?_
        exact X11_readSeal_j74_ok ho hq_1_0 v2 x5 x8 x7 v6 s0 s1 s2 s3
      · exact X11_readSeal_j74_ok ho hq_1_0 v2 v3 v4 v5 v6 s0 s1 s2 s3
def X11_readSeal_j110 (v3 : Int32) (k0 : Bool) (s0 : RS) (s1 : RS) (s2 : RS) (s3 : RS) : Option Int32 :=
  if k0 = true then
    (pX0_isClosed s2 v3).bind fun x10 =>
    if x10 = true then
      some v3
    else
      some (-1 : Int32)
  else
    some (-1 : Int32)
theorem X11_readSeal_j110_ok (ho : xok [(11, b0), (7, (b0 + 8)), (0, b2), (9, b3)] h.2.1) (hq_1_0 : f1 0 = some b2) (v3 : Int32) (k0 : Bool) (s0 : RS) (s1 : RS) (s2 : RS) (s3 : RS) : aS l 3 MX11_readSeal n0 S0 (oΦ (fun (x : Int32) => ((some (.int x)), xw [(11, b0, f0, s0), (7, (b0 + 8), f1, s1), (0, b2, f2, s2), (9, b3, f3, s3)] h))) 110 [(0, .ref b0), (3, .int v3)] [.int (b2i k0)] (xw [(11, b0, f0, s0), (7, (b0 + 8), f1, s1), (0, b2, f2, s2), (9, b3, f3, s3)] h) (X11_readSeal_j110 v3 k0 s0 s1 s2 s3) := by
  unfold X11_readSeal_j110
  refine s_istore (lv' := [(6, .int (b2i k0)), (0, .ref b0), (3, .int v3)]) (pc := 110) dX11_readSeal_110 (by decide) rfl ?_
  refine s_iload (pc := 112) 0 dX11_readSeal_112 rfl ?_
  refine s_if_eqB (tgt := 135) (pc := 114) dX11_readSeal_114 (by decide) (fun _ => ?_) (fun _ => ?_)
  · refine s_aload_n (pc := 117) 1 dX11_readSeal_117 rfl ?_
    refine xg_X11_25 0 ho rfl (pc := 118) dX11_readSeal_118 rfl ?_
    refine xg_X11_174 1 ho rfl (pc := 121) dX11_readSeal_121 rfl hq_1_0 ?_
    refine s_iload_n (pc := 124) 2 dX11_readSeal_124 rfl ?_
    refine x_callV (M := MX11_readSeal) (L := [(11, b0, f0, s0), (7, (b0 + 8), f1, s1), (0, b2, f2, s2), (9, b3, f3, s3)]) (h := h) (j := 2) (As := [.int v3]) (st := []) (A := fun (x : Bool) => some (.int (b2i x))) (Lc := [(0, b2, f2, s2)]) (Lr := fun (x : Bool) => [(0, b2, f2, s2)]) (L2 := fun (x : Bool) => [(11, b0, f0, s0), (7, (b0 + 8), f1, s1), (0, b2, f2, s2), (9, b3, f3, s3)]) cv_X11_244 (by decide) (pc := 125) dX11_readSeal_125 ho rfl xc0_0 rfl rfl (Nat.le_of_ble_eq_true rfl) (xovs (L := [(11, b0, f0, s0), (7, (b0 + 8), f1, s1), (0, b2, f2, s2), (9, b3, f3, s3)]) (h := h) [(2, (0, b2, f2, s2))] ho ⟨rfl, trivial⟩).1 (fun x => (xovs (L := [(11, b0, f0, s0), (7, (b0 + 8), f1, s1), (0, b2, f2, s2), (9, b3, f3, s3)]) (h := h) [(2, (0, b2, f2, s2))] ho ⟨rfl, trivial⟩).1) (fun x hx => pX0_isClosed_ok (h := xw [(11, b0, f0, s0), (7, (b0 + 8), f1, s1), (0, b2, f2, s2), (9, b3, f3, s3)] h) (f0 := f2) (xok_sub ho [2] rfl (by decide)) s2 v3 x hx) rfl (fun x10 _ => ?_)
    refine s_if_eqB (tgt := 135) (pc := 128) dX11_readSeal_128 (by decide) (fun _ => ?_) (fun _ => ?_)
    · refine s_iload_n (pc := 131) 2 dX11_readSeal_131 rfl ?_
      refine s_goto (tgt := 136) (pc := 132) dX11_readSeal_132 (by decide) ?_
      exact s_iret (pc := 136) dX11_readSeal_136 rfl (fun _ _ q => q)
    · refine s_iconst (v := (-1)) (pc := 135) dX11_readSeal_135 (by decide) ?_
      exact s_iret (pc := 136) dX11_readSeal_136 rfl (fun _ _ q => q)
  · refine s_iconst (v := (-1)) (pc := 135) dX11_readSeal_135 (by decide) ?_
    exact s_iret (pc := 136) dX11_readSeal_136 rfl (fun _ _ q => q)
def X11_readSeal_j109 (v3 : Int32) (s0 : RS) (s1 : RS) (s2 : RS) (s3 : RS) : Option Int32 :=
  X11_readSeal_j110 v3 false s0 s1 s2 s3
theorem X11_readSeal_j109_ok (ho : xok [(11, b0), (7, (b0 + 8)), (0, b2), (9, b3)] h.2.1) (hq_1_0 : f1 0 = some b2) (v3 : Int32) (s0 : RS) (s1 : RS) (s2 : RS) (s3 : RS) : aS l 3 MX11_readSeal n0 S0 (oΦ (fun (x : Int32) => ((some (.int x)), xw [(11, b0, f0, s0), (7, (b0 + 8), f1, s1), (0, b2, f2, s2), (9, b3, f3, s3)] h))) 109 [(0, .ref b0), (3, .int v3)] [] (xw [(11, b0, f0, s0), (7, (b0 + 8), f1, s1), (0, b2, f2, s2), (9, b3, f3, s3)] h) (X11_readSeal_j109 v3 s0 s1 s2 s3) := by
  unfold X11_readSeal_j109
  refine s_iconst (v := 0) (pc := 109) dX11_readSeal_109 (by decide) ?_
  exact X11_readSeal_j110_ok ho hq_1_0 v3 false s0 s1 s2 s3
def X11_readSeal_j80 (v2 : Int32) (v3 : Int32) (v4 : Int32) (v5 : Int32) (s0 : RS) (s1 : RS) (s2 : RS) (s3 : RS) : Option Int32 :=
  if v4 = (v2 + (2 : Int32)) then
    (pX9_get s3 v4).bind fun x11 =>
    if x11 = (v5 - v5 / (251 : Int32) * (251 : Int32)).toInt64 then
      X11_readSeal_j110 v3 true s0 s1 s2 s3
    else
      X11_readSeal_j109 v3 s0 s1 s2 s3
  else
    X11_readSeal_j109 v3 s0 s1 s2 s3
theorem X11_readSeal_j80_ok (ho : xok [(11, b0), (7, (b0 + 8)), (0, b2), (9, b3)] h.2.1) (hq_1_0 : f1 0 = some b2) (v2 : Int32) (v3 : Int32) (v4 : Int32) (v5 : Int32) (s0 : RS) (s1 : RS) (s2 : RS) (s3 : RS) : aS l 3 MX11_readSeal n0 S0 (oΦ (fun (x : Int32) => ((some (.int x)), xw [(11, b0, f0, s0), (7, (b0 + 8), f1, s1), (0, b2, f2, s2), (9, b3, f3, s3)] h))) 80 [(0, .ref b0), (1, .ref b3), (2, .int v2), (3, .int v3), (4, .int v4), (5, .int v5)] [] (xw [(11, b0, f0, s0), (7, (b0 + 8), f1, s1), (0, b2, f2, s2), (9, b3, f3, s3)] h) (X11_readSeal_j80 v2 v3 v4 v5 s0 s1 s2 s3) := by
  unfold X11_readSeal_j80
  refine s_iload (pc := 80) 4 dX11_readSeal_80 rfl ?_
  refine s_iload_n (pc := 82) 2 dX11_readSeal_82 rfl ?_
  refine s_iconst (v := 2) (pc := 83) dX11_readSeal_83 (by decide) ?_
  refine s_iadd (pc := 84) dX11_readSeal_84 ?_
  refine s_icmp_ne (tgt := 109) (pc := 85) dX11_readSeal_85 (by decide) (fun _ => ?_) (fun _ => ?_)
  · refine s_aload_n (pc := 88) 1 dX11_readSeal_88 rfl ?_
    refine s_iload (pc := 89) 4 dX11_readSeal_89 rfl ?_
    refine x_callV (M := MX11_readSeal) (L := [(11, b0, f0, s0), (7, (b0 + 8), f1, s1), (0, b2, f2, s2), (9, b3, f3, s3)]) (h := h) (j := 3) (As := [.int v4]) (st := []) (A := fun (x : Int64) => some (.long x)) (Lc := [(9, b3, f3, s3)]) (Lr := fun (x : Int64) => [(9, b3, f3, s3)]) (L2 := fun (x : Int64) => [(11, b0, f0, s0), (7, (b0 + 8), f1, s1), (0, b2, f2, s2), (9, b3, f3, s3)]) cv_X11_117 (by decide) (pc := 91) dX11_readSeal_91 ho rfl xc0_9 rfl rfl (Nat.le_of_ble_eq_true rfl) (xovs (L := [(11, b0, f0, s0), (7, (b0 + 8), f1, s1), (0, b2, f2, s2), (9, b3, f3, s3)]) (h := h) [(3, (9, b3, f3, s3))] ho ⟨rfl, trivial⟩).1 (fun x => (xovs (L := [(11, b0, f0, s0), (7, (b0 + 8), f1, s1), (0, b2, f2, s2), (9, b3, f3, s3)]) (h := h) [(3, (9, b3, f3, s3))] ho ⟨rfl, trivial⟩).1) (fun x hx => pX9_get_ok (h := xw [(11, b0, f0, s0), (7, (b0 + 8), f1, s1), (0, b2, f2, s2), (9, b3, f3, s3)] h) (f0 := f3) (xok_sub ho [3] rfl (by decide)) s3 v4 x hx) rfl (fun x11 _ => ?_)
    refine s_iload (pc := 94) 5 dX11_readSeal_94 rfl ?_
    refine s_sipush (v := 251) (pc := 96) dX11_readSeal_96 (by decide) ?_
    refine s_iremC (pc := 99) dX11_readSeal_99 (by decide) ?_
    refine s_i2l (pc := 100) dX11_readSeal_100 ?_
    refine s_lcmp (pc := 101) dX11_readSeal_101 ?_
    refine s_ifL (lg_cmp_z _ _) (s_if_ne (tgt := 109) (pc := 102) dX11_readSeal_102 (by decide) (fun _ => ?_) (fun _ => ?_))
    · refine s_iconst (v := 1) (pc := 105) dX11_readSeal_105 (by decide) ?_
      refine s_goto (tgt := 110) (pc := 106) dX11_readSeal_106 (by decide) ?_
      refine s_sub [0, 3] rfl ?_
      exact X11_readSeal_j110_ok ho hq_1_0 v3 true s0 s1 s2 s3
    · refine s_sub [0, 3] rfl ?_
      exact X11_readSeal_j109_ok ho hq_1_0 v3 s0 s1 s2 s3
  · refine s_sub [0, 3] rfl ?_
    exact X11_readSeal_j109_ok ho hq_1_0 v3 s0 s1 s2 s3
def pX11_readSeal (s0 : RS) (s1 : RS) (s2 : RS) (s3 : RS) (a1 : Int32) : Option Int32 :=
  thn ((1 : Int32) + a1) fun x1 =>
  (a_loop (fun (q : Int32 × Int32 × Int32 × Int32) => X11_readSeal_b13 a1 q.1 q.2.1 q.2.2.1 q.2.2.2 s0 s1 s2 s3) FU ((0 : Int32), (2 : Int32), x1, (0 : Int32))).bind fun (t9 : Int32 × Int32 × Int32) =>
    X11_readSeal_j80 a1 t9.1 t9.2.1 t9.2.2 s0 s1 s2 s3
theorem pX11_readSeal_w (ho : xok [(11, b0), (7, (b0 + 8)), (0, b2), (9, b3)] h.2.1) (hq_1_0 : f1 0 = some b2) (s0 : RS) (s1 : RS) (s2 : RS) (s3 : RS) (a1 : Int32) : aS l 3 MX11_readSeal n0 S0 (oΦ (fun (x : Int32) => ((some (.int x)), xw [(11, b0, f0, s0), (7, (b0 + 8), f1, s1), (0, b2, f2, s2), (9, b3, f3, s3)] h))) 0 [(0, .ref b0), (1, .ref b3), (2, .int a1)] [] (xw [(11, b0, f0, s0), (7, (b0 + 8), f1, s1), (0, b2, f2, s2), (9, b3, f3, s3)] h) (pX11_readSeal s0 s1 s2 s3 a1) := by
  unfold pX11_readSeal
  refine s_iconst (v := 0) (pc := 0) dX11_readSeal_0 (by decide) ?_
  refine s_istore_n (lv' := [(3, .int 0), (0, .ref b0), (1, .ref b3), (2, .int a1)]) (pc := 1) dX11_readSeal_1 (by decide) rfl ?_
  refine s_iconst (v := 2) (pc := 2) dX11_readSeal_2 (by decide) ?_
  refine s_istore (lv' := [(4, .int 2), (3, .int 0), (0, .ref b0), (1, .ref b3), (2, .int a1)]) (pc := 3) dX11_readSeal_3 (by decide) rfl ?_
  refine s_iconst (v := 1) (pc := 5) dX11_readSeal_5 (by decide) ?_
  refine s_iload_n (pc := 6) 4 dX11_readSeal_6 rfl ?_
  refine s_iadd (pc := 7) dX11_readSeal_7 ?_
  refine s_istoreT (lv' := fun x1 => [(5, .int x1), (4, .int 2), (3, .int 0), (0, .ref b0), (1, .ref b3), (2, .int a1)]) (pc := 8) dX11_readSeal_8 (by decide) (fun _ => rfl) (fun x1 => ?_)
  refine s_iconst (v := 0) (pc := 10) dX11_readSeal_10 (by decide) ?_
  refine s_istore (lv' := [(6, .int 0), (5, .int x1), (4, .int 2), (3, .int 0), (0, .ref b0), (1, .ref b3), (2, .int a1)]) (pc := 11) dX11_readSeal_11 (by decide) rfl ?_
  refine s_bind (Ψ := X11_readSeal_x13 l n0 S0 h b0 b2 b3 f0 f1 f2 f3 a1 s0 s1 s2 s3) ?_ ?_
  · refine s_sub [4, 5, 6, 3, 2, 1, 0] rfl ?_
    exact s_loop (lvf := fun (q : Int32 × Int32 × Int32 × Int32) => [(0, .ref b0), (1, .ref b3), (2, .int a1), (3, .int q.1), (4, .int q.2.1), (5, .int q.2.2.1), (6, .int q.2.2.2)]) (stf := fun _ => []) (hf := fun (q : Int32 × Int32 × Int32 × Int32) => xw [(11, b0, f0, s0), (7, (b0 + 8), f1, s1), (0, b2, f2, s2), (9, b3, f3, s3)] h) (fun q => X11_readSeal_b13_ok ho hq_1_0 a1 q.1 q.2.1 q.2.2.1 q.2.2.2 s0 s1 s2 s3) FU ((0 : Int32), (2 : Int32), x1, (0 : Int32))
  · intro t9 z r h' hz hr
    refine (?_ : aS l 3 MX11_readSeal n0 S0 (oΦ (fun (x : Int32) => ((some (.int x)), xw [(11, b0, f0, s0), (7, (b0 + 8), f1, s1), (0, b2, f2, s2), (9, b3, f3, s3)] h))) 80 [(0, .ref b0), (1, .ref b3), (2, .int a1), (3, .int t9.1), (4, .int t9.2.1), (5, .int t9.2.2)] [] (xw [(11, b0, f0, s0), (7, (b0 + 8), f1, s1), (0, b2, f2, s2), (9, b3, f3, s3)] h) _) z hz r h' hr
    exact X11_readSeal_j80_ok ho hq_1_0 a1 t9.1 t9.2.1 t9.2.2 s0 s1 s2 s3
theorem pX11_readSeal_ok (ho : xok [(11, b0), (7, (b0 + 8)), (0, b2), (9, b3)] h.2.1) (hq_1_0 : f1 0 = some b2) (s0 : RS) (s1 : RS) (s2 : RS) (s3 : RS) (a1 : Int32) : ∀ x, pX11_readSeal s0 s1 s2 s3 a1 = some x → aMet l 3 yX11_readSeal cX11_readSeal 7 (some .int) [.ref b0, .ref b3, .int a1] (xw [(11, b0, f0, s0), (7, (b0 + 8), f1, s1), (0, b2, f2, s2), (9, b3, f3, s3)] h) (some (.int x)) (xw [(11, b0, f0, s0), (7, (b0 + 8), f1, s1), (0, b2, f2, s2), (9, b3, f3, s3)] h) := fun x hx => a_meth (ini := false) (y := yX11_readSeal) (by decide +kernel) (fun q => by cases q) (fun _ => Nat.le_of_ble_eq_true rfl) (pX11_readSeal_w ho hq_1_0 s0 s1 s2 s3 a1) x hx _ _ ⟨rfl, rfl⟩
end
section
variable {l : Launch} {n0 S0 : Nat} {h : aH} {b0 : Nat} {f0 : Nat → Option Nat}
abbrev MX11_sealedCount : aM := (cX11_sealedCount, RX11, 3, (some .int), false)
def pX11_sealedCount (s0 : RS) : Option Int32 :=
  (pX9_get s0 (1 : Int32)).bind fun x1 =>
  (pX9_get s0 (0 : Int32)).bind fun x2 =>
  if x2 = (1 : Int64) then
    if x1 < (0 : Int64) then
      some (-1 : Int32)
    else
      if (16 : Int64) < x1 then
        some (-1 : Int32)
      else
        some x1.toInt32
  else
    some (-1 : Int32)
theorem pX11_sealedCount_w (ho : xok [(9, b0)] h.2.1) (s0 : RS) : aS l 1 MX11_sealedCount n0 S0 (oΦ (fun (x : Int32) => ((some (.int x)), xw [(9, b0, f0, s0)] h))) 0 [(0, .ref b0)] [] (xw [(9, b0, f0, s0)] h) (pX11_sealedCount s0) := by
  unfold pX11_sealedCount
  refine s_aload_n (pc := 0) 0 dX11_sealedCount_0 rfl ?_
  refine s_iconst (v := 1) (pc := 1) dX11_sealedCount_1 (by decide) ?_
  refine x_callV (M := MX11_sealedCount) (L := [(9, b0, f0, s0)]) (h := h) (j := 0) (As := [.int 1]) (st := []) (A := fun (x : Int64) => some (.long x)) (Lc := [(9, b0, f0, s0)]) (Lr := fun (x : Int64) => [(9, b0, f0, s0)]) (L2 := fun (x : Int64) => [(9, b0, f0, s0)]) cv_X11_117 (by decide) (pc := 2) dX11_sealedCount_2 ho rfl xc0_9 rfl rfl (Nat.le_of_ble_eq_true rfl) (xovs (L := [(9, b0, f0, s0)]) (h := h) [(0, (9, b0, f0, s0))] ho ⟨rfl, trivial⟩).1 (fun x => (xovs (L := [(9, b0, f0, s0)]) (h := h) [(0, (9, b0, f0, s0))] ho ⟨rfl, trivial⟩).1) (fun x hx => pX9_get_ok (h := xw [(9, b0, f0, s0)] h) (f0 := f0) (xok_sub ho [0] rfl (by decide)) s0 (1 : Int32) x hx) rfl (fun x1 _ => ?_)
  refine s_lstore_n (lv' := [(1, .long x1), (0, .ref b0)]) (pc := 5) dX11_sealedCount_5 (by decide) rfl ?_
  refine s_aload_n (pc := 6) 1 dX11_sealedCount_6 rfl ?_
  refine s_iconst (v := 0) (pc := 7) dX11_sealedCount_7 (by decide) ?_
  refine x_callV (M := MX11_sealedCount) (L := [(9, b0, f0, s0)]) (h := h) (j := 0) (As := [.int 0]) (st := []) (A := fun (x : Int64) => some (.long x)) (Lc := [(9, b0, f0, s0)]) (Lr := fun (x : Int64) => [(9, b0, f0, s0)]) (L2 := fun (x : Int64) => [(9, b0, f0, s0)]) cv_X11_117 (by decide) (pc := 8) dX11_sealedCount_8 ho rfl xc0_9 rfl rfl (Nat.le_of_ble_eq_true rfl) (xovs (L := [(9, b0, f0, s0)]) (h := h) [(0, (9, b0, f0, s0))] ho ⟨rfl, trivial⟩).1 (fun x => (xovs (L := [(9, b0, f0, s0)]) (h := h) [(0, (9, b0, f0, s0))] ho ⟨rfl, trivial⟩).1) (fun x hx => pX9_get_ok (h := xw [(9, b0, f0, s0)] h) (f0 := f0) (xok_sub ho [0] rfl (by decide)) s0 (0 : Int32) x hx) rfl (fun x2 _ => ?_)
  refine s_lconst (v := 1) (pc := 11) dX11_sealedCount_11 (by decide) ?_
  refine s_lcmp (pc := 12) dX11_sealedCount_12 ?_
  refine s_ifL (lg_cmp_z _ _) (s_if_ne (tgt := 35) (pc := 13) dX11_sealedCount_13 (by decide) (fun _ => ?_) (fun _ => ?_))
  · refine s_lload_n (pc := 16) 0 dX11_sealedCount_16 rfl ?_
    refine s_lconst (v := 0) (pc := 17) dX11_sealedCount_17 (by decide) ?_
    refine s_lcmp (pc := 18) dX11_sealedCount_18 ?_
    refine s_ifL (lg_cmp_lt _ _) (s_if_lt (tgt := 35) (pc := 19) dX11_sealedCount_19 (by decide) (fun _ => ?_) (fun _ => ?_))
    · refine s_iconst (v := (-1)) (pc := 35) dX11_sealedCount_35 (by decide) ?_
      exact s_iret (pc := 36) dX11_sealedCount_36 rfl (fun _ _ q => q)
    · refine s_lload_n (pc := 22) 0 dX11_sealedCount_22 rfl ?_
      refine s_ldc2 (v := 16) (pc := 23) dX11_sealedCount_23 wk_X11_421 ?_
      refine s_lcmp (pc := 26) dX11_sealedCount_26 ?_
      refine s_ifL (lg_cmp_gt _ _) (s_if_gt (tgt := 35) (pc := 27) dX11_sealedCount_27 (by decide) (fun _ => ?_) (fun _ => ?_))
      · refine s_iconst (v := (-1)) (pc := 35) dX11_sealedCount_35 (by decide) ?_
        exact s_iret (pc := 36) dX11_sealedCount_36 rfl (fun _ _ q => q)
      · refine s_lload_n (pc := 30) 0 dX11_sealedCount_30 rfl ?_
        refine s_l2i (pc := 31) dX11_sealedCount_31 ?_
        refine s_goto (tgt := 36) (pc := 32) dX11_sealedCount_32 (by decide) ?_
        exact s_iret (pc := 36) dX11_sealedCount_36 rfl (fun _ _ q => q)
  · refine s_iconst (v := (-1)) (pc := 35) dX11_sealedCount_35 (by decide) ?_
    exact s_iret (pc := 36) dX11_sealedCount_36 rfl (fun _ _ q => q)
theorem pX11_sealedCount_ok (ho : xok [(9, b0)] h.2.1) (s0 : RS) : ∀ x, pX11_sealedCount s0 = some x → aMet l 1 yX11_sealedCount cX11_sealedCount 3 (some .int) [.ref b0] (xw [(9, b0, f0, s0)] h) (some (.int x)) (xw [(9, b0, f0, s0)] h) := fun x hx => a_meth (ini := false) (y := yX11_sealedCount) (by decide +kernel) (fun q => by cases q) (fun _ => Nat.le_of_ble_eq_true rfl) (pX11_sealedCount_w ho s0) x hx _ _ ⟨rfl, rfl⟩
end
section
variable {l : Launch} {n0 S0 : Nat} {h : aH} {b0 b2 b3 : Nat} {f0 f1 f2 f3 : Nat → Option Nat} {a0 : Int32}
abbrev MX11_open : aM := (cX11_open, RX11, 5, (some .int), false)
def pX11_open (s0 : RS) (s1 : RS) (s2 : RS) (s3 : RS) (a0 : Int32) : Option (Int32 × RS) :=
  (pX11_isTray a0).bind fun x1 =>
  if x1 = true then
    g_in a0 4 (
    (pX9_isMissing s3).bind fun x2 =>
    if x2 = true then
      (pX11_refuse s0 (3 : Int32)).bind fun x12 =>
      some (x12.1, x12.2)
    else
      (pX9_spans s3 (0 : Int32) (3 : Int32)).bind fun x3 =>
      if x3 = true then
        (pX11_sealedCount s3).bind fun x4 =>
        if x4 = (-1 : Int32) then
          (pX11_refuse s0 (9 : Int32)).bind fun x10 =>
          some (x10.1, x10.2)
        else
          (pX9_spans s3 (0 : Int32) (x4 + (3 : Int32))).bind fun x5 =>
          if x5 = true then
            (pX11_readSeal s0 s1 s2 s3 x4).bind fun x6 =>
            if x6 = (-1 : Int32) then
              (pX11_refuse s0 (9 : Int32)).bind fun x8 =>
              some (x8.1, x8.2)
            else
              (pX11_tell s0 x6).bind fun x7 =>
              some (x7.1, x7.2)
          else
            (pX11_refuse s0 (4 : Int32)).bind fun x9 =>
            some (x9.1, x9.2)
      else
        (pX11_refuse s0 (4 : Int32)).bind fun x11 =>
        some (x11.1, x11.2))
  else
    (pX11_refuse s0 (1 : Int32)).bind fun x13 =>
    some (x13.1, x13.2)
theorem pX11_open_w (ho : xok [(11, b0), (7, (b0 + 8)), (0, b2), (9, b3)] h.2.1) (hq_1_0 : f1 0 = some b2) (ht_a0 : vp_in a0 4 → b0 + 79 + 2 * a0.toNatClampNeg = b3) (s0 : RS) (s1 : RS) (s2 : RS) (s3 : RS) : aS l 4 MX11_open n0 S0 (oΦ (fun (x : Int32 × RS) => ((some (.int x.1)), xw [(11, b0, f0, x.2), (7, (b0 + 8), f1, s1), (0, b2, f2, s2), (9, b3, f3, s3)] h))) 0 [(0, .ref b0), (1, .int a0)] [] (xw [(11, b0, f0, s0), (7, (b0 + 8), f1, s1), (0, b2, f2, s2), (9, b3, f3, s3)] h) (pX11_open s0 s1 s2 s3 a0) := by
  unfold pX11_open
  refine s_iload_n (pc := 0) 1 dX11_open_0 rfl ?_
  refine s_callS (M := MX11_open) (As := [.int a0]) (st := []) (Ψ := fun (x : Bool) => (some (.int (b2i x)), xw [(11, b0, f0, s0), (7, (b0 + 8), f1, s1), (0, b2, f2, s2), (9, b3, f3, s3)] h)) cs_X11_80 (by decide) (pc := 1) dX11_open_1 rfl (Nat.le_of_ble_eq_true rfl) (fun x hx => pX11_isTray_ok a0 x hx) rfl (fun x1 _ => ?_)
  refine s_if_neB (tgt := 13) (pc := 4) dX11_open_4 (by decide) (fun _ => ?_) (fun _ => ?_)
  · refine s_aload_n (pc := 13) 0 dX11_open_13 rfl ?_
    refine xg_X11_11 0 ho rfl (pc := 14) dX11_open_14 rfl ?_
    refine s_iload_n (pc := 17) 1 dX11_open_17 rfl ?_
    refine x_trays 0 ho rfl ht_a0 (pc := 18) dX11_open_18 ?_
    refine s_astore_n (lv' := [(2, .ref b3), (0, .ref b0), (1, .int a0)]) (pc := 19) dX11_open_19 (by decide) rfl ?_
    refine s_aload_n (pc := 20) 0 dX11_open_20 rfl ?_
    refine x_callV (M := MX11_open) (L := [(11, b0, f0, s0), (7, (b0 + 8), f1, s1), (0, b2, f2, s2), (9, b3, f3, s3)]) (h := h) (j := 3) (As := []) (st := []) (A := fun (x : Bool) => some (.int (b2i x))) (Lc := [(9, b3, f3, s3)]) (Lr := fun (x : Bool) => [(9, b3, f3, s3)]) (L2 := fun (x : Bool) => [(11, b0, f0, s0), (7, (b0 + 8), f1, s1), (0, b2, f2, s2), (9, b3, f3, s3)]) cv_X11_84 (by decide) (pc := 21) dX11_open_21 ho rfl xc0_9 rfl rfl (Nat.le_of_ble_eq_true rfl) (xovs (L := [(11, b0, f0, s0), (7, (b0 + 8), f1, s1), (0, b2, f2, s2), (9, b3, f3, s3)]) (h := h) [(3, (9, b3, f3, s3))] ho ⟨rfl, trivial⟩).1 (fun x => (xovs (L := [(11, b0, f0, s0), (7, (b0 + 8), f1, s1), (0, b2, f2, s2), (9, b3, f3, s3)]) (h := h) [(3, (9, b3, f3, s3))] ho ⟨rfl, trivial⟩).1) (fun x hx => pX9_isMissing_ok (h := xw [(11, b0, f0, s0), (7, (b0 + 8), f1, s1), (0, b2, f2, s2), (9, b3, f3, s3)] h) (f0 := f3) (xok_sub ho [3] rfl (by decide)) s3 x hx) rfl (fun x2 _ => ?_)
    refine s_if_eqB (tgt := 33) (pc := 24) dX11_open_24 (by decide) (fun _ => ?_) (fun _ => ?_)
    · refine s_aload_n (pc := 27) 1 dX11_open_27 rfl ?_
      refine s_iconst (v := 3) (pc := 28) dX11_open_28 (by decide) ?_
      refine x_callV (M := MX11_open) (L := [(11, b0, f0, s0), (7, (b0 + 8), f1, s1), (0, b2, f2, s2), (9, b3, f3, s3)]) (h := h) (j := 0) (As := [.int 3]) (st := []) (A := fun (x : Int32 × RS) => some (.int x.1)) (Lc := [(11, b0, f0, s0)]) (Lr := fun (x : Int32 × RS) => [(11, b0, f0, x.2)]) (L2 := fun (x : Int32 × RS) => [(11, b0, f0, x.2), (7, (b0 + 8), f1, s1), (0, b2, f2, s2), (9, b3, f3, s3)]) cv_X11_113 (by decide) (pc := 29) dX11_open_29 ho rfl xc0_11 rfl rfl (Nat.le_of_ble_eq_true rfl) (xovs (L := [(11, b0, f0, s0), (7, (b0 + 8), f1, s1), (0, b2, f2, s2), (9, b3, f3, s3)]) (h := h) [(0, (11, b0, f0, s0))] ho ⟨rfl, trivial⟩).1 (fun x => (xovs (L := [(11, b0, f0, s0), (7, (b0 + 8), f1, s1), (0, b2, f2, s2), (9, b3, f3, s3)]) (h := h) [(0, (11, b0, f0, x.2))] ho ⟨rfl, trivial⟩).1) (fun x hx => pX11_refuse_ok (h := xw [(11, b0, f0, s0), (7, (b0 + 8), f1, s1), (0, b2, f2, s2), (9, b3, f3, s3)] h) (f0 := f0) (xok_sub ho [0] rfl (by decide)) s0 (3 : Int32) x hx) rfl (fun x12 _ => ?_)
      exact s_iret (pc := 32) dX11_open_32 rfl (fun _ _ q => q)
    · refine s_aload_n (pc := 33) 0 dX11_open_33 rfl ?_
      refine s_iconst (v := 0) (pc := 34) dX11_open_34 (by decide) ?_
      refine s_iconst (v := 3) (pc := 35) dX11_open_35 (by decide) ?_
      refine x_callV (M := MX11_open) (L := [(11, b0, f0, s0), (7, (b0 + 8), f1, s1), (0, b2, f2, s2), (9, b3, f3, s3)]) (h := h) (j := 3) (As := [.int 0, .int 3]) (st := []) (A := fun (x : Bool) => some (.int (b2i x))) (Lc := [(9, b3, f3, s3)]) (Lr := fun (x : Bool) => [(9, b3, f3, s3)]) (L2 := fun (x : Bool) => [(11, b0, f0, s0), (7, (b0 + 8), f1, s1), (0, b2, f2, s2), (9, b3, f3, s3)]) cv_X11_88 (by decide) (pc := 36) dX11_open_36 ho rfl xc0_9 rfl rfl (Nat.le_of_ble_eq_true rfl) (xovs (L := [(11, b0, f0, s0), (7, (b0 + 8), f1, s1), (0, b2, f2, s2), (9, b3, f3, s3)]) (h := h) [(3, (9, b3, f3, s3))] ho ⟨rfl, trivial⟩).1 (fun x => (xovs (L := [(11, b0, f0, s0), (7, (b0 + 8), f1, s1), (0, b2, f2, s2), (9, b3, f3, s3)]) (h := h) [(3, (9, b3, f3, s3))] ho ⟨rfl, trivial⟩).1) (fun x hx => pX9_spans_ok (h := xw [(11, b0, f0, s0), (7, (b0 + 8), f1, s1), (0, b2, f2, s2), (9, b3, f3, s3)] h) (f0 := f3) (xok_sub ho [3] rfl (by decide)) s3 (0 : Int32) (3 : Int32) x hx) rfl (fun x3 _ => ?_)
      refine s_if_neB (tgt := 48) (pc := 39) dX11_open_39 (by decide) (fun _ => ?_) (fun _ => ?_)
      · refine s_aload_n (pc := 48) 0 dX11_open_48 rfl ?_
        refine x_callS (M := MX11_open) (L := [(11, b0, f0, s0), (7, (b0 + 8), f1, s1), (0, b2, f2, s2), (9, b3, f3, s3)]) (h := h) (As := [.ref b3]) (st := []) (A := fun (x : Int32) => some (.int x)) (Lc := [(9, b3, f3, s3)]) (Lr := fun (x : Int32) => [(9, b3, f3, s3)]) (L2 := fun (x : Int32) => [(11, b0, f0, s0), (7, (b0 + 8), f1, s1), (0, b2, f2, s2), (9, b3, f3, s3)]) cs_X11_413 (by decide) (pc := 49) dX11_open_49 rfl (Nat.le_of_ble_eq_true rfl) (xovs (L := [(11, b0, f0, s0), (7, (b0 + 8), f1, s1), (0, b2, f2, s2), (9, b3, f3, s3)]) (h := h) [(3, (9, b3, f3, s3))] ho ⟨rfl, trivial⟩).1 (fun x => (xovs (L := [(11, b0, f0, s0), (7, (b0 + 8), f1, s1), (0, b2, f2, s2), (9, b3, f3, s3)]) (h := h) [(3, (9, b3, f3, s3))] ho ⟨rfl, trivial⟩).1) (fun x hx => pX11_sealedCount_ok (h := xw [(11, b0, f0, s0), (7, (b0 + 8), f1, s1), (0, b2, f2, s2), (9, b3, f3, s3)] h) (f0 := f3) (xok_sub ho [3] rfl (by decide)) s3 x hx) rfl (fun x4 _ => ?_)
        refine s_istore_n (lv' := [(3, .int x4), (2, .ref b3), (0, .ref b0), (1, .int a0)]) (pc := 52) dX11_open_52 (by decide) rfl ?_
        refine s_iload_n (pc := 53) 0 dX11_open_53 rfl ?_
        refine s_iconst (v := (-1)) (pc := 54) dX11_open_54 (by decide) ?_
        refine s_icmp_ne (tgt := 65) (pc := 55) dX11_open_55 (by decide) (fun _ => ?_) (fun _ => ?_)
        · refine s_aload_n (pc := 58) 2 dX11_open_58 rfl ?_
          refine s_bipush (v := 9) (pc := 59) dX11_open_59 (by decide) ?_
          refine x_callV (M := MX11_open) (L := [(11, b0, f0, s0), (7, (b0 + 8), f1, s1), (0, b2, f2, s2), (9, b3, f3, s3)]) (h := h) (j := 0) (As := [.int 9]) (st := []) (A := fun (x : Int32 × RS) => some (.int x.1)) (Lc := [(11, b0, f0, s0)]) (Lr := fun (x : Int32 × RS) => [(11, b0, f0, x.2)]) (L2 := fun (x : Int32 × RS) => [(11, b0, f0, x.2), (7, (b0 + 8), f1, s1), (0, b2, f2, s2), (9, b3, f3, s3)]) cv_X11_113 (by decide) (pc := 61) dX11_open_61 ho rfl xc0_11 rfl rfl (Nat.le_of_ble_eq_true rfl) (xovs (L := [(11, b0, f0, s0), (7, (b0 + 8), f1, s1), (0, b2, f2, s2), (9, b3, f3, s3)]) (h := h) [(0, (11, b0, f0, s0))] ho ⟨rfl, trivial⟩).1 (fun x => (xovs (L := [(11, b0, f0, s0), (7, (b0 + 8), f1, s1), (0, b2, f2, s2), (9, b3, f3, s3)]) (h := h) [(0, (11, b0, f0, x.2))] ho ⟨rfl, trivial⟩).1) (fun x hx => pX11_refuse_ok (h := xw [(11, b0, f0, s0), (7, (b0 + 8), f1, s1), (0, b2, f2, s2), (9, b3, f3, s3)] h) (f0 := f0) (xok_sub ho [0] rfl (by decide)) s0 (9 : Int32) x hx) rfl (fun x10 _ => ?_)
          exact s_iret (pc := 64) dX11_open_64 rfl (fun _ _ q => q)
        · refine s_aload_n (pc := 65) 1 dX11_open_65 rfl ?_
          refine s_iconst (v := 0) (pc := 66) dX11_open_66 (by decide) ?_
          refine s_iload_n (pc := 67) 0 dX11_open_67 rfl ?_
          refine s_iconst (v := 3) (pc := 68) dX11_open_68 (by decide) ?_
          refine s_iadd (pc := 69) dX11_open_69 ?_
          refine x_callV (M := MX11_open) (L := [(11, b0, f0, s0), (7, (b0 + 8), f1, s1), (0, b2, f2, s2), (9, b3, f3, s3)]) (h := h) (j := 3) (As := [.int 0, .int (x4 + (3 : Int32))]) (st := []) (A := fun (x : Bool) => some (.int (b2i x))) (Lc := [(9, b3, f3, s3)]) (Lr := fun (x : Bool) => [(9, b3, f3, s3)]) (L2 := fun (x : Bool) => [(11, b0, f0, s0), (7, (b0 + 8), f1, s1), (0, b2, f2, s2), (9, b3, f3, s3)]) cv_X11_88 (by decide) (pc := 70) dX11_open_70 ho rfl xc0_9 rfl rfl (Nat.le_of_ble_eq_true rfl) (xovs (L := [(11, b0, f0, s0), (7, (b0 + 8), f1, s1), (0, b2, f2, s2), (9, b3, f3, s3)]) (h := h) [(3, (9, b3, f3, s3))] ho ⟨rfl, trivial⟩).1 (fun x => (xovs (L := [(11, b0, f0, s0), (7, (b0 + 8), f1, s1), (0, b2, f2, s2), (9, b3, f3, s3)]) (h := h) [(3, (9, b3, f3, s3))] ho ⟨rfl, trivial⟩).1) (fun x hx => pX9_spans_ok (h := xw [(11, b0, f0, s0), (7, (b0 + 8), f1, s1), (0, b2, f2, s2), (9, b3, f3, s3)] h) (f0 := f3) (xok_sub ho [3] rfl (by decide)) s3 (0 : Int32) (x4 + (3 : Int32)) x hx) rfl (fun x5 _ => ?_)
          refine s_if_neB (tgt := 82) (pc := 73) dX11_open_73 (by decide) (fun _ => ?_) (fun _ => ?_)
          · refine s_aload_n (pc := 82) 2 dX11_open_82 rfl ?_
            refine s_aload_n (pc := 83) 1 dX11_open_83 rfl ?_
            refine s_iload_n (pc := 84) 0 dX11_open_84 rfl ?_
            refine x_callV (M := MX11_open) (L := [(11, b0, f0, s0), (7, (b0 + 8), f1, s1), (0, b2, f2, s2), (9, b3, f3, s3)]) (h := h) (j := 0) (As := [.ref b3, .int x4]) (st := []) (A := fun (x : Int32) => some (.int x)) (Lc := [(11, b0, f0, s0), (7, (b0 + 8), f1, s1), (0, b2, f2, s2), (9, b3, f3, s3)]) (Lr := fun (x : Int32) => [(11, b0, f0, s0), (7, (b0 + 8), f1, s1), (0, b2, f2, s2), (9, b3, f3, s3)]) (L2 := fun (x : Int32) => [(11, b0, f0, s0), (7, (b0 + 8), f1, s1), (0, b2, f2, s2), (9, b3, f3, s3)]) cv_X11_417 (by decide) (pc := 85) dX11_open_85 ho rfl xc0_11 rfl rfl (Nat.le_of_ble_eq_true rfl) (xovs (L := [(11, b0, f0, s0), (7, (b0 + 8), f1, s1), (0, b2, f2, s2), (9, b3, f3, s3)]) (h := h) [(0, (11, b0, f0, s0)), (1, (7, (b0 + 8), f1, s1)), (2, (0, b2, f2, s2)), (3, (9, b3, f3, s3))] ho ⟨rfl, rfl, rfl, rfl, trivial⟩).1 (fun x => (xovs (L := [(11, b0, f0, s0), (7, (b0 + 8), f1, s1), (0, b2, f2, s2), (9, b3, f3, s3)]) (h := h) [(0, (11, b0, f0, s0)), (1, (7, (b0 + 8), f1, s1)), (2, (0, b2, f2, s2)), (3, (9, b3, f3, s3))] ho ⟨rfl, rfl, rfl, rfl, trivial⟩).1) (fun x hx => pX11_readSeal_ok (h := xw [(11, b0, f0, s0), (7, (b0 + 8), f1, s1), (0, b2, f2, s2), (9, b3, f3, s3)] h) (f0 := f0) (f1 := f1) (f2 := f2) (f3 := f3) (xok_sub ho [0, 1, 2, 3] rfl (by decide)) hq_1_0 s0 s1 s2 s3 x4 x hx) rfl (fun x6 _ => ?_)
            refine s_istore (lv' := [(4, .int x6), (3, .int x4), (2, .ref b3), (0, .ref b0), (1, .int a0)]) (pc := 88) dX11_open_88 (by decide) rfl ?_
            refine s_iload (pc := 90) 0 dX11_open_90 rfl ?_
            refine s_iconst (v := (-1)) (pc := 92) dX11_open_92 (by decide) ?_
            refine s_icmp_ne (tgt := 105) (pc := 93) dX11_open_93 (by decide) (fun _ => ?_) (fun _ => ?_)
            · refine s_aload_n (pc := 96) 3 dX11_open_96 rfl ?_
              refine s_bipush (v := 9) (pc := 97) dX11_open_97 (by decide) ?_
              refine x_callV (M := MX11_open) (L := [(11, b0, f0, s0), (7, (b0 + 8), f1, s1), (0, b2, f2, s2), (9, b3, f3, s3)]) (h := h) (j := 0) (As := [.int 9]) (st := []) (A := fun (x : Int32 × RS) => some (.int x.1)) (Lc := [(11, b0, f0, s0)]) (Lr := fun (x : Int32 × RS) => [(11, b0, f0, x.2)]) (L2 := fun (x : Int32 × RS) => [(11, b0, f0, x.2), (7, (b0 + 8), f1, s1), (0, b2, f2, s2), (9, b3, f3, s3)]) cv_X11_113 (by decide) (pc := 99) dX11_open_99 ho rfl xc0_11 rfl rfl (Nat.le_of_ble_eq_true rfl) (xovs (L := [(11, b0, f0, s0), (7, (b0 + 8), f1, s1), (0, b2, f2, s2), (9, b3, f3, s3)]) (h := h) [(0, (11, b0, f0, s0))] ho ⟨rfl, trivial⟩).1 (fun x => (xovs (L := [(11, b0, f0, s0), (7, (b0 + 8), f1, s1), (0, b2, f2, s2), (9, b3, f3, s3)]) (h := h) [(0, (11, b0, f0, x.2))] ho ⟨rfl, trivial⟩).1) (fun x hx => pX11_refuse_ok (h := xw [(11, b0, f0, s0), (7, (b0 + 8), f1, s1), (0, b2, f2, s2), (9, b3, f3, s3)] h) (f0 := f0) (xok_sub ho [0] rfl (by decide)) s0 (9 : Int32) x hx) rfl (fun x8 _ => ?_)
              refine s_goto (tgt := 111) (pc := 102) dX11_open_102 (by decide) ?_
              exact s_iret (pc := 111) dX11_open_111 rfl (fun _ _ q => q)
            · refine s_aload_n (pc := 105) 3 dX11_open_105 rfl ?_
              refine s_iload (pc := 106) 0 dX11_open_106 rfl ?_
              refine x_callV (M := MX11_open) (L := [(11, b0, f0, s0), (7, (b0 + 8), f1, s1), (0, b2, f2, s2), (9, b3, f3, s3)]) (h := h) (j := 0) (As := [.int x6]) (st := []) (A := fun (x : Int32 × RS) => some (.int x.1)) (Lc := [(11, b0, f0, s0)]) (Lr := fun (x : Int32 × RS) => [(11, b0, f0, x.2)]) (L2 := fun (x : Int32 × RS) => [(11, b0, f0, x.2), (7, (b0 + 8), f1, s1), (0, b2, f2, s2), (9, b3, f3, s3)]) cv_X11_169 (by decide) (pc := 108) dX11_open_108 ho rfl xc0_11 rfl rfl (Nat.le_of_ble_eq_true rfl) (xovs (L := [(11, b0, f0, s0), (7, (b0 + 8), f1, s1), (0, b2, f2, s2), (9, b3, f3, s3)]) (h := h) [(0, (11, b0, f0, s0))] ho ⟨rfl, trivial⟩).1 (fun x => (xovs (L := [(11, b0, f0, s0), (7, (b0 + 8), f1, s1), (0, b2, f2, s2), (9, b3, f3, s3)]) (h := h) [(0, (11, b0, f0, x.2))] ho ⟨rfl, trivial⟩).1) (fun x hx => pX11_tell_ok (h := xw [(11, b0, f0, s0), (7, (b0 + 8), f1, s1), (0, b2, f2, s2), (9, b3, f3, s3)] h) (f0 := f0) (xok_sub ho [0] rfl (by decide)) s0 x6 x hx) rfl (fun x7 _ => ?_)
              exact s_iret (pc := 111) dX11_open_111 rfl (fun _ _ q => q)
          · refine s_aload_n (pc := 76) 2 dX11_open_76 rfl ?_
            refine s_iconst (v := 4) (pc := 77) dX11_open_77 (by decide) ?_
            refine x_callV (M := MX11_open) (L := [(11, b0, f0, s0), (7, (b0 + 8), f1, s1), (0, b2, f2, s2), (9, b3, f3, s3)]) (h := h) (j := 0) (As := [.int 4]) (st := []) (A := fun (x : Int32 × RS) => some (.int x.1)) (Lc := [(11, b0, f0, s0)]) (Lr := fun (x : Int32 × RS) => [(11, b0, f0, x.2)]) (L2 := fun (x : Int32 × RS) => [(11, b0, f0, x.2), (7, (b0 + 8), f1, s1), (0, b2, f2, s2), (9, b3, f3, s3)]) cv_X11_113 (by decide) (pc := 78) dX11_open_78 ho rfl xc0_11 rfl rfl (Nat.le_of_ble_eq_true rfl) (xovs (L := [(11, b0, f0, s0), (7, (b0 + 8), f1, s1), (0, b2, f2, s2), (9, b3, f3, s3)]) (h := h) [(0, (11, b0, f0, s0))] ho ⟨rfl, trivial⟩).1 (fun x => (xovs (L := [(11, b0, f0, s0), (7, (b0 + 8), f1, s1), (0, b2, f2, s2), (9, b3, f3, s3)]) (h := h) [(0, (11, b0, f0, x.2))] ho ⟨rfl, trivial⟩).1) (fun x hx => pX11_refuse_ok (h := xw [(11, b0, f0, s0), (7, (b0 + 8), f1, s1), (0, b2, f2, s2), (9, b3, f3, s3)] h) (f0 := f0) (xok_sub ho [0] rfl (by decide)) s0 (4 : Int32) x hx) rfl (fun x9 _ => ?_)
            exact s_iret (pc := 81) dX11_open_81 rfl (fun _ _ q => q)
      · refine s_aload_n (pc := 42) 1 dX11_open_42 rfl ?_
        refine s_iconst (v := 4) (pc := 43) dX11_open_43 (by decide) ?_
        refine x_callV (M := MX11_open) (L := [(11, b0, f0, s0), (7, (b0 + 8), f1, s1), (0, b2, f2, s2), (9, b3, f3, s3)]) (h := h) (j := 0) (As := [.int 4]) (st := []) (A := fun (x : Int32 × RS) => some (.int x.1)) (Lc := [(11, b0, f0, s0)]) (Lr := fun (x : Int32 × RS) => [(11, b0, f0, x.2)]) (L2 := fun (x : Int32 × RS) => [(11, b0, f0, x.2), (7, (b0 + 8), f1, s1), (0, b2, f2, s2), (9, b3, f3, s3)]) cv_X11_113 (by decide) (pc := 44) dX11_open_44 ho rfl xc0_11 rfl rfl (Nat.le_of_ble_eq_true rfl) (xovs (L := [(11, b0, f0, s0), (7, (b0 + 8), f1, s1), (0, b2, f2, s2), (9, b3, f3, s3)]) (h := h) [(0, (11, b0, f0, s0))] ho ⟨rfl, trivial⟩).1 (fun x => (xovs (L := [(11, b0, f0, s0), (7, (b0 + 8), f1, s1), (0, b2, f2, s2), (9, b3, f3, s3)]) (h := h) [(0, (11, b0, f0, x.2))] ho ⟨rfl, trivial⟩).1) (fun x hx => pX11_refuse_ok (h := xw [(11, b0, f0, s0), (7, (b0 + 8), f1, s1), (0, b2, f2, s2), (9, b3, f3, s3)] h) (f0 := f0) (xok_sub ho [0] rfl (by decide)) s0 (4 : Int32) x hx) rfl (fun x11 _ => ?_)
        exact s_iret (pc := 47) dX11_open_47 rfl (fun _ _ q => q)
  · refine s_aload_n (pc := 7) 0 dX11_open_7 rfl ?_
    refine s_iconst (v := 1) (pc := 8) dX11_open_8 (by decide) ?_
    refine x_callV (M := MX11_open) (L := [(11, b0, f0, s0), (7, (b0 + 8), f1, s1), (0, b2, f2, s2), (9, b3, f3, s3)]) (h := h) (j := 0) (As := [.int 1]) (st := []) (A := fun (x : Int32 × RS) => some (.int x.1)) (Lc := [(11, b0, f0, s0)]) (Lr := fun (x : Int32 × RS) => [(11, b0, f0, x.2)]) (L2 := fun (x : Int32 × RS) => [(11, b0, f0, x.2), (7, (b0 + 8), f1, s1), (0, b2, f2, s2), (9, b3, f3, s3)]) cv_X11_113 (by decide) (pc := 9) dX11_open_9 ho rfl xc0_11 rfl rfl (Nat.le_of_ble_eq_true rfl) (xovs (L := [(11, b0, f0, s0), (7, (b0 + 8), f1, s1), (0, b2, f2, s2), (9, b3, f3, s3)]) (h := h) [(0, (11, b0, f0, s0))] ho ⟨rfl, trivial⟩).1 (fun x => (xovs (L := [(11, b0, f0, s0), (7, (b0 + 8), f1, s1), (0, b2, f2, s2), (9, b3, f3, s3)]) (h := h) [(0, (11, b0, f0, x.2))] ho ⟨rfl, trivial⟩).1) (fun x hx => pX11_refuse_ok (h := xw [(11, b0, f0, s0), (7, (b0 + 8), f1, s1), (0, b2, f2, s2), (9, b3, f3, s3)] h) (f0 := f0) (xok_sub ho [0] rfl (by decide)) s0 (1 : Int32) x hx) rfl (fun x13 _ => ?_)
    exact s_iret (pc := 12) dX11_open_12 rfl (fun _ _ q => q)
theorem pX11_open_ok (ho : xok [(11, b0), (7, (b0 + 8)), (0, b2), (9, b3)] h.2.1) (hq_1_0 : f1 0 = some b2) (ht_a0 : vp_in a0 4 → b0 + 79 + 2 * a0.toNatClampNeg = b3) (s0 : RS) (s1 : RS) (s2 : RS) (s3 : RS) : ∀ x, pX11_open s0 s1 s2 s3 a0 = some x → aMet l 4 yX11_open cX11_open 5 (some .int) [.ref b0, .int a0] (xw [(11, b0, f0, s0), (7, (b0 + 8), f1, s1), (0, b2, f2, s2), (9, b3, f3, s3)] h) (some (.int x.1)) (xw [(11, b0, f0, x.2), (7, (b0 + 8), f1, s1), (0, b2, f2, s2), (9, b3, f3, s3)] h) := fun x hx => a_meth (ini := false) (y := yX11_open) (by decide +kernel) (fun q => by cases q) (fun _ => Nat.le_of_ble_eq_true rfl) (pX11_open_w ho hq_1_0 ht_a0 s0 s1 s2 s3) x hx _ _ ⟨rfl, rfl⟩
end
