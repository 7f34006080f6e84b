section
variable {l : Launch} {n0 S0 : Nat} {h : aH} {b0 b1 b2 : Nat} {f0 f1 f2 : Nat → Option Nat}
abbrev MX5_countOrdersWith : aM := (cX5_countOrdersWith, RX5, 5, (some .long), false)
def pX5_countOrdersWithF (s0 : RS) (s1 : RS) (s2 : RS) (a1 : Int32) (a2 : Int32) (a3 : Int32) : Option (Int64 × RS × RS) :=
  thn (uI s0 1 a1) fun s_1 =>
  thn (uI s_1 2 a2) fun s_2 =>
  thn (uI s_2 3 a3) fun s_3 =>
  thn (uI s_3 4 ((s_3.1 4) + (1 : Int32))) fun s_4 =>
  if (Int32.ofNat (s2.1 0).toNatClampNeg) ≤ (s_4.1 1) then
    none
  else
    if (s_4.1 4) < (262144 : Int32) then
      (pX5_waysBehind 20 s_4 s1 s2 (0 : Int32) (0 : Int32)).bind fun x5 =>
      some (x5.1, s_4, x5.2)
    else
      none
theorem pX5_countOrdersWithF_w (ho : xok [(5, b0), (0, b1), (12, b2)] h.2.1) (hq_0_5 : f0 5 = some b2) (s0 : RS) (s1 : RS) (s2 : RS) (a1 : Int32) (a2 : Int32) (a3 : Int32) : aS l 61 MX5_countOrdersWith n0 S0 (oΦ (fun (x : Int64 × RS × RS) => ((some (.long x.1)), xw [(5, b0, (va_up f0 0 (some b1)), x.2.1), (0, b1, f1, s1), (12, b2, f2, x.2.2)] h))) 0 [(0, .ref b0), (1, .ref b1), (2, .int a1), (3, .int a2), (4, .int a3)] [] (xw [(5, b0, f0, s0), (0, b1, f1, s1), (12, b2, f2, s2)] h) (pX5_countOrdersWithF s0 s1 s2 a1 a2 a3) := by
  unfold pX5_countOrdersWithF
  refine s_aload_n (pc := 0) 0 dX5_countOrdersWith_0 rfl ?_
  refine s_aload_n (pc := 1) 1 dX5_countOrdersWith_1 rfl ?_
  refine xp_X5_14 (L2 := [(5, b0, (va_up f0 0 (some b1)), s0), (0, b1, f1, s1), (12, b2, f2, s2)]) 0 ho rfl rfl (pc := 2) dX5_countOrdersWith_2 rfl ?_
  refine s_aload_n (pc := 5) 0 dX5_countOrdersWith_5 rfl ?_
  refine s_iload_n (pc := 6) 2 dX5_countOrdersWith_6 rfl ?_
  refine xp_X5_18 (L' := fun s_1 => [(5, b0, (va_up f0 0 (some b1)), s_1), (0, b1, f1, s1), (12, b2, f2, s2)]) 0 ho rfl (fun _ => rfl) (pc := 7) dX5_countOrdersWith_7 rfl (fun s_1 => ?_)
  refine s_aload_n (pc := 10) 0 dX5_countOrdersWith_10 rfl ?_
  refine s_iload_n (pc := 11) 3 dX5_countOrdersWith_11 rfl ?_
  refine xp_X5_22 (L' := fun s_2 => [(5, b0, (va_up f0 0 (some b1)), s_2), (0, b1, f1, s1), (12, b2, f2, s2)]) 0 ho rfl (fun _ => rfl) (pc := 12) dX5_countOrdersWith_12 rfl (fun s_2 => ?_)
  refine s_aload_n (pc := 15) 0 dX5_countOrdersWith_15 rfl ?_
  refine s_iload (pc := 16) 4 dX5_countOrdersWith_16 rfl ?_
  refine xp_X5_25 (L' := fun s_3 => [(5, b0, (va_up f0 0 (some b1)), s_3), (0, b1, f1, s1), (12, b2, f2, s2)]) 0 ho rfl (fun _ => rfl) (pc := 18) dX5_countOrdersWith_18 rfl (fun s_3 => ?_)
  refine s_aload_n (pc := 21) 0 dX5_countOrdersWith_21 rfl ?_
  refine s_dup (pc := 22) dX5_countOrdersWith_22 rfl ?_
  refine xg_X5_28 0 ho rfl (pc := 23) dX5_countOrdersWith_23 rfl ?_
  refine s_iconst (v := 1) (pc := 26) dX5_countOrdersWith_26 (by decide) ?_
  refine s_iadd (pc := 27) dX5_countOrdersWith_27 ?_
  refine xp_X5_28 (L' := fun s_4 => [(5, b0, (va_up f0 0 (some b1)), s_4), (0, b1, f1, s1), (12, b2, f2, s2)]) 0 ho rfl (fun _ => rfl) (pc := 28) dX5_countOrdersWith_28 rfl (fun s_4 => ?_)
  refine s_aload_n (pc := 31) 0 dX5_countOrdersWith_31 rfl ?_
  refine xg_X5_18 0 ho rfl (pc := 32) dX5_countOrdersWith_32 rfl ?_
  refine s_aload_n (pc := 35) 0 dX5_countOrdersWith_35 rfl ?_
  refine xg_X5_31 0 ho rfl (pc := 36) dX5_countOrdersWith_36 rfl hq_0_5 ?_
  refine xn_12_0 2 ho rfl (pc := 39) dX5_countOrdersWith_39 ?_
  refine s_icmp_ge (tgt := 52) (pc := 40) dX5_countOrdersWith_40 (by decide) (fun _ => ?_) (fun _ => ?_)
  · exact fun z hz => by cases hz
  · refine s_aload_n (pc := 43) 0 dX5_countOrdersWith_43 rfl ?_
    refine xg_X5_28 0 ho rfl (pc := 44) dX5_countOrdersWith_44 rfl ?_
    refine s_ldc (v := 262144) (pc := 47) dX5_countOrdersWith_47 wk_X5_39 ?_
    refine s_icmp_lt (tgt := 69) (pc := 49) dX5_countOrdersWith_49 (by decide) (fun _ => ?_) (fun _ => ?_)
    · refine s_aload_n (pc := 69) 0 dX5_countOrdersWith_69 rfl ?_
      refine s_iconst (v := 0) (pc := 70) dX5_countOrdersWith_70 (by decide) ?_
      refine s_iconst (v := 0) (pc := 71) dX5_countOrdersWith_71 (by decide) ?_
      refine x_callV (M := MX5_countOrdersWith) (L := [(5, b0, (va_up f0 0 (some b1)), s_4), (0, b1, f1, s1), (12, b2, f2, s2)]) (h := h) (j := 0) (As := [.int 0, .int 0]) (st := []) (A := fun (x : Int64 × RS) => some (.long x.1)) (Lc := [(5, b0, (va_up f0 0 (some b1)), s_4), (0, b1, f1, s1), (12, b2, f2, s2)]) (Lr := fun (x : Int64 × RS) => [(5, b0, (va_up f0 0 (some b1)), s_4), (0, b1, f1, s1), (12, b2, f2, x.2)]) (L2 := fun (x : Int64 × RS) => [(5, b0, (va_up f0 0 (some b1)), s_4), (0, b1, f1, s1), (12, b2, f2, x.2)]) cv_X5_43 (by decide) (pc := 72) dX5_countOrdersWith_72 ho rfl xc0_5 rfl rfl (Nat.le_of_ble_eq_true rfl) (xovs (L := [(5, b0, (va_up f0 0 (some b1)), s_4), (0, b1, f1, s1), (12, b2, f2, s2)]) (h := h) [(0, (5, b0, (va_up f0 0 (some b1)), s_4)), (1, (0, b1, f1, s1)), (2, (12, b2, f2, s2))] ho ⟨rfl, rfl, rfl, trivial⟩).1 (fun x => (xovs (L := [(5, b0, (va_up f0 0 (some b1)), s_4), (0, b1, f1, s1), (12, b2, f2, s2)]) (h := h) [(0, (5, b0, (va_up f0 0 (some b1)), s_4)), (1, (0, b1, f1, s1)), (2, (12, b2, f2, x.2))] ho ⟨rfl, rfl, rfl, trivial⟩).1) (fun x hx => pX5_waysBehind_ok (h := xw [(5, b0, (va_up f0 0 (some b1)), s_4), (0, b1, f1, s1), (12, b2, f2, s2)] h) (f0 := (va_up f0 0 (some b1))) (f1 := f1) (f2 := f2) (xok_sub ho [0, 1, 2] rfl (by decide)) rfl hq_0_5 20 s_4 s1 s2 (0 : Int32) (0 : Int32) x hx) rfl (fun x5 _ => ?_)
      exact s_lret (pc := 75) dX5_countOrdersWith_75 rfl (fun _ _ q => q)
    · exact fun z hz => by cases hz
theorem pX5_countOrdersWithF_ok (ho : xok [(5, b0), (0, b1), (12, b2)] h.2.1) (hq_0_5 : f0 5 = some b2) (s0 : RS) (s1 : RS) (s2 : RS) (a1 : Int32) (a2 : Int32) (a3 : Int32) : ∀ x, pX5_countOrdersWithF s0 s1 s2 a1 a2 a3 = some x → aMet l 61 yX5_countOrdersWith cX5_countOrdersWith 5 (some .long) [.ref b0, .ref b1, .int a1, .int a2, .int a3] (xw [(5, b0, f0, s0), (0, b1, f1, s1), (12, b2, f2, s2)] h) (some (.long x.1)) (xw [(5, b0, (va_up f0 0 (some b1)), x.2.1), (0, b1, f1, s1), (12, b2, f2, x.2.2)] h) := fun x hx => a_meth (ini := false) (y := yX5_countOrdersWith) (by decide +kernel) (fun q => by cases q) (fun _ => Nat.le_of_ble_eq_true rfl) (pX5_countOrdersWithF_w ho hq_0_5 s0 s1 s2 a1 a2 a3) x hx _ _ ⟨rfl, rfl⟩
end
section
variable {l : Launch} {n0 S0 : Nat} {h : aH} {b0 b1 b2 : Nat} {f0 f1 f2 : Nat → Option Nat}
def X5_countOrdersWithGh_j52 (s0 : RS) (s1 : RS) (s2 : RS) : Option (Int32 × RS) :=
  some (((1 : Int32) <<< ((s1.1 1) &&& 31)), s0)
theorem X5_countOrdersWithGh_j52_ok (ho : xok [(5, b0), (0, b1), (12, b2)] h.2.1) (hq_0_0 : f0 0 = some b1) (hq_0_5 : f0 5 = some b2) (s0 : RS) (s1 : RS) (s2 : RS) : aS l 61 MX5_countOrdersWith n0 S0 (fun (x : Int32 × RS) r h' => aEv l 61 MX5_countOrdersWith n0 S0 59 [(0, .ref b0)] [.int x.1, .ref b0] (xw [(5, b0, f0, x.2), (0, b1, f1, s1), (12, b2, f2, s2)] h) r h') 52 [(0, .ref b0), (1, .ref b1)] [] (xw [(5, b0, f0, s0), (0, b1, f1, s1), (12, b2, f2, s2)] h) (X5_countOrdersWithGh_j52 s0 s1 s2) := by
  unfold X5_countOrdersWithGh_j52
  refine s_aload_n (pc := 52) 0 dX5_countOrdersWith_52 rfl ?_
  refine s_iconst (v := 1) (pc := 53) dX5_countOrdersWith_53 (by decide) ?_
  refine s_aload_n (pc := 54) 1 dX5_countOrdersWith_54 rfl ?_
  refine xg_X5_40 1 ho rfl (pc := 55) dX5_countOrdersWith_55 rfl ?_
  refine s_ishl (pc := 58) dX5_countOrdersWith_58 ?_
  refine s_sub [0] rfl ?_
  exact s_ev (fun _ _ q => q)
def pX5_countOrdersWithGh (s0 : RS) (s1 : RS) (s2 : RS) (a1 : Int32) (a2 : Int32) (a3 : Int32) : Option (Int32 × RS) :=
  thn (uI s0 1 a1) fun s_1 =>
  thn (uI s_1 2 a2) fun s_2 =>
  thn (uI s_2 3 a3) fun s_3 =>
  thn (uI s_3 4 ((s_3.1 4) + (1 : Int32))) fun s_4 =>
  if (Int32.ofNat (s2.1 0).toNatClampNeg) ≤ (s_4.1 1) then
    X5_countOrdersWithGh_j52 s_4 s1 s2
  else
    if (s_4.1 4) < (262144 : Int32) then
      none
    else
      X5_countOrdersWithGh_j52 s_4 s1 s2
theorem pX5_countOrdersWithGh_w (ho : xok [(5, b0), (0, b1), (12, b2)] h.2.1) (hq_0_5 : f0 5 = some b2) (s0 : RS) (s1 : RS) (s2 : RS) (a1 : Int32) (a2 : Int32) (a3 : Int32) : aS l 61 MX5_countOrdersWith n0 S0 (fun (x : Int32 × RS) r h' => aEv l 61 MX5_countOrdersWith n0 S0 59 [(0, .ref b0)] [.int x.1, .ref b0] (xw [(5, b0, (va_up f0 0 (some b1)), x.2), (0, b1, f1, s1), (12, b2, f2, s2)] h) r h') 0 [(0, .ref b0), (1, .ref b1), (2, .int a1), (3, .int a2), (4, .int a3)] [] (xw [(5, b0, f0, s0), (0, b1, f1, s1), (12, b2, f2, s2)] h) (pX5_countOrdersWithGh s0 s1 s2 a1 a2 a3) := by
  unfold pX5_countOrdersWithGh
  refine s_aload_n (pc := 0) 0 dX5_countOrdersWith_0 rfl ?_
  refine s_aload_n (pc := 1) 1 dX5_countOrdersWith_1 rfl ?_
  refine xp_X5_14 (L2 := [(5, b0, (va_up f0 0 (some b1)), s0), (0, b1, f1, s1), (12, b2, f2, s2)]) 0 ho rfl rfl (pc := 2) dX5_countOrdersWith_2 rfl ?_
  refine s_aload_n (pc := 5) 0 dX5_countOrdersWith_5 rfl ?_
  refine s_iload_n (pc := 6) 2 dX5_countOrdersWith_6 rfl ?_
  refine xp_X5_18 (L' := fun s_1 => [(5, b0, (va_up f0 0 (some b1)), s_1), (0, b1, f1, s1), (12, b2, f2, s2)]) 0 ho rfl (fun _ => rfl) (pc := 7) dX5_countOrdersWith_7 rfl (fun s_1 => ?_)
  refine s_aload_n (pc := 10) 0 dX5_countOrdersWith_10 rfl ?_
  refine s_iload_n (pc := 11) 3 dX5_countOrdersWith_11 rfl ?_
  refine xp_X5_22 (L' := fun s_2 => [(5, b0, (va_up f0 0 (some b1)), s_2), (0, b1, f1, s1), (12, b2, f2, s2)]) 0 ho rfl (fun _ => rfl) (pc := 12) dX5_countOrdersWith_12 rfl (fun s_2 => ?_)
  refine s_aload_n (pc := 15) 0 dX5_countOrdersWith_15 rfl ?_
  refine s_iload (pc := 16) 4 dX5_countOrdersWith_16 rfl ?_
  refine xp_X5_25 (L' := fun s_3 => [(5, b0, (va_up f0 0 (some b1)), s_3), (0, b1, f1, s1), (12, b2, f2, s2)]) 0 ho rfl (fun _ => rfl) (pc := 18) dX5_countOrdersWith_18 rfl (fun s_3 => ?_)
  refine s_aload_n (pc := 21) 0 dX5_countOrdersWith_21 rfl ?_
  refine s_dup (pc := 22) dX5_countOrdersWith_22 rfl ?_
  refine xg_X5_28 0 ho rfl (pc := 23) dX5_countOrdersWith_23 rfl ?_
  refine s_iconst (v := 1) (pc := 26) dX5_countOrdersWith_26 (by decide) ?_
  refine s_iadd (pc := 27) dX5_countOrdersWith_27 ?_
  refine xp_X5_28 (L' := fun s_4 => [(5, b0, (va_up f0 0 (some b1)), s_4), (0, b1, f1, s1), (12, b2, f2, s2)]) 0 ho rfl (fun _ => rfl) (pc := 28) dX5_countOrdersWith_28 rfl (fun s_4 => ?_)
  refine s_aload_n (pc := 31) 0 dX5_countOrdersWith_31 rfl ?_
  refine xg_X5_18 0 ho rfl (pc := 32) dX5_countOrdersWith_32 rfl ?_
  refine s_aload_n (pc := 35) 0 dX5_countOrdersWith_35 rfl ?_
  refine xg_X5_31 0 ho rfl (pc := 36) dX5_countOrdersWith_36 rfl hq_0_5 ?_
  refine xn_12_0 2 ho rfl (pc := 39) dX5_countOrdersWith_39 ?_
  refine s_icmp_ge (tgt := 52) (pc := 40) dX5_countOrdersWith_40 (by decide) (fun _ => ?_) (fun _ => ?_)
  · refine s_sub [0, 1] rfl ?_
    exact X5_countOrdersWithGh_j52_ok (f0 := (va_up f0 0 (some b1))) ho rfl hq_0_5 s_4 s1 s2
  · refine s_aload_n (pc := 43) 0 dX5_countOrdersWith_43 rfl ?_
    refine xg_X5_28 0 ho rfl (pc := 44) dX5_countOrdersWith_44 rfl ?_
    refine s_ldc (v := 262144) (pc := 47) dX5_countOrdersWith_47 wk_X5_39 ?_
    refine s_icmp_lt (tgt := 69) (pc := 49) dX5_countOrdersWith_49 (by decide) (fun _ => ?_) (fun _ => ?_)
    · exact fun z hz => by cases hz
    · refine s_sub [0, 1] rfl ?_
      exact X5_countOrdersWithGh_j52_ok (f0 := (va_up f0 0 (some b1))) ho rfl hq_0_5 s_4 s1 s2
end
section
variable {l : Launch} {n0 S0 : Nat} {h : aH} {b0 b1 b2 : Nat} {f0 f1 f2 : Nat → Option Nat}
def pX5_countOrdersWithGt (s0 : RS) (s1 : RS) (s2 : RS) : Option (Int64 × RS × RS) :=
  thn (uI s0 4 (1 : Int32)) fun s_1 =>
  (pX5_waysBehind 20 s_1 s1 s2 (0 : Int32) (0 : Int32)).bind fun x2 =>
  some (x2.1, s_1, x2.2)
theorem pX5_countOrdersWithGt_w (ho : xok [(5, b0), (0, b1), (12, b2)] h.2.1) (hq_0_0 : f0 0 = some b1) (s0 : RS) (s1 : RS) (s2 : RS) : aS l 61 MX5_countOrdersWith n0 S0 (oΦ (fun (x : Int64 × RS × RS) => ((some (.long x.1)), xw [(5, b0, (va_up f0 5 (some b2)), x.2.1), (0, b1, f1, s1), (12, b2, f2, x.2.2)] h))) 61 [(0, .ref b0)] [.ref b2, .ref b0] (xw [(5, b0, f0, s0), (0, b1, f1, s1), (12, b2, f2, s2)] h) (pX5_countOrdersWithGt s0 s1 s2) := by
  unfold pX5_countOrdersWithGt
  refine xp_X5_31 (L2 := [(5, b0, (va_up f0 5 (some b2)), s0), (0, b1, f1, s1), (12, b2, f2, s2)]) 0 ho rfl rfl (pc := 61) dX5_countOrdersWith_61 rfl ?_
  refine s_aload_n (pc := 64) 0 dX5_countOrdersWith_64 rfl ?_
  refine s_iconst (v := 1) (pc := 65) dX5_countOrdersWith_65 (by decide) ?_
  refine xp_X5_28 (L' := fun s_1 => [(5, b0, (va_up f0 5 (some b2)), s_1), (0, b1, f1, s1), (12, b2, f2, s2)]) 0 ho rfl (fun _ => rfl) (pc := 66) dX5_countOrdersWith_66 rfl (fun s_1 => ?_)
  refine s_aload_n (pc := 69) 0 dX5_countOrdersWith_69 rfl ?_
  refine s_iconst (v := 0) (pc := 70) dX5_countOrdersWith_70 (by decide) ?_
  refine s_iconst (v := 0) (pc := 71) dX5_countOrdersWith_71 (by decide) ?_
  refine x_callV (M := MX5_countOrdersWith) (L := [(5, b0, (va_up f0 5 (some b2)), s_1), (0, b1, f1, s1), (12, b2, f2, s2)]) (h := h) (j := 0) (As := [.int 0, .int 0]) (st := []) (A := fun (x : Int64 × RS) => some (.long x.1)) (Lc := [(5, b0, (va_up f0 5 (some b2)), s_1), (0, b1, f1, s1), (12, b2, f2, s2)]) (Lr := fun (x : Int64 × RS) => [(5, b0, (va_up f0 5 (some b2)), s_1), (0, b1, f1, s1), (12, b2, f2, x.2)]) (L2 := fun (x : Int64 × RS) => [(5, b0, (va_up f0 5 (some b2)), s_1), (0, b1, f1, s1), (12, b2, f2, x.2)]) cv_X5_43 (by decide) (pc := 72) dX5_countOrdersWith_72 ho rfl xc0_5 rfl rfl (Nat.le_of_ble_eq_true rfl) (xovs (L := [(5, b0, (va_up f0 5 (some b2)), s_1), (0, b1, f1, s1), (12, b2, f2, s2)]) (h := h) [(0, (5, b0, (va_up f0 5 (some b2)), s_1)), (1, (0, b1, f1, s1)), (2, (12, b2, f2, s2))] ho ⟨rfl, rfl, rfl, trivial⟩).1 (fun x => (xovs (L := [(5, b0, (va_up f0 5 (some b2)), s_1), (0, b1, f1, s1), (12, b2, f2, s2)]) (h := h) [(0, (5, b0, (va_up f0 5 (some b2)), s_1)), (1, (0, b1, f1, s1)), (2, (12, b2, f2, x.2))] ho ⟨rfl, rfl, rfl, trivial⟩).1) (fun x hx => pX5_waysBehind_ok (h := xw [(5, b0, (va_up f0 5 (some b2)), s_1), (0, b1, f1, s1), (12, b2, f2, s2)] h) (f0 := (va_up f0 5 (some b2))) (f1 := f1) (f2 := f2) (xok_sub ho [0, 1, 2] rfl (by decide)) hq_0_0 rfl 20 s_1 s1 s2 (0 : Int32) (0 : Int32) x hx) rfl (fun x2 _ => ?_)
  exact s_lret (pc := 75) dX5_countOrdersWith_75 rfl (fun _ _ q => q)
end
section
variable {l : Launch} {n0 S0 : Nat} {h : aH} {b0 b1 b2 : Nat} {f0 f1 f2 : Nat → Option Nat}
abbrev MX5_countOrders : aM := (cX5_countOrders, RX5, 3, (some .long), false)
def pX5_countOrdersF (s0 : RS) (s1 : RS) (s2 : RS) (a1 : Int32) : Option (Int64 × RS × RS) :=
  (pX5_countOrdersWithF s0 s1 s2 a1 (-1 : Int32) (-1 : Int32)).bind fun x1 =>
  some (x1.1, x1.2.1, x1.2.2)
theorem pX5_countOrdersF_w (ho : xok [(5, b0), (0, b1), (12, b2)] h.2.1) (hq_0_5 : f0 5 = some b2) (s0 : RS) (s1 : RS) (s2 : RS) (a1 : Int32) : aS l 62 MX5_countOrders n0 S0 (oΦ (fun (x : Int64 × RS × RS) => ((some (.long x.1)), xw [(5, b0, (va_up f0 0 (some b1)), x.2.1), (0, b1, f1, s1), (12, b2, f2, x.2.2)] h))) 0 [(0, .ref b0), (1, .ref b1), (2, .int a1)] [] (xw [(5, b0, f0, s0), (0, b1, f1, s1), (12, b2, f2, s2)] h) (pX5_countOrdersF s0 s1 s2 a1) := by
  unfold pX5_countOrdersF
  refine s_aload_n (pc := 0) 0 dX5_countOrders_0 rfl ?_
  refine s_aload_n (pc := 1) 1 dX5_countOrders_1 rfl ?_
  refine s_iload_n (pc := 2) 2 dX5_countOrders_2 rfl ?_
  refine s_iconst (v := (-1)) (pc := 3) dX5_countOrders_3 (by decide) ?_
  refine s_iconst (v := (-1)) (pc := 4) dX5_countOrders_4 (by decide) ?_
  refine x_callV (M := MX5_countOrders) (L := [(5, b0, f0, s0), (0, b1, f1, s1), (12, b2, f2, s2)]) (h := h) (j := 0) (As := [.ref b1, .int a1, .int (-1), .int (-1)]) (st := []) (A := fun (x : Int64 × RS × RS) => some (.long x.1)) (Lc := [(5, b0, f0, s0), (0, b1, f1, s1), (12, b2, f2, s2)]) (Lr := fun (x : Int64 × RS × RS) => [(5, b0, (va_up f0 0 (some b1)), x.2.1), (0, b1, f1, s1), (12, b2, f2, x.2.2)]) (L2 := fun (x : Int64 × RS × RS) => [(5, b0, (va_up f0 0 (some b1)), x.2.1), (0, b1, f1, s1), (12, b2, f2, x.2.2)]) cv_X5_35 (by decide) (pc := 5) dX5_countOrders_5 ho rfl xc0_5 rfl rfl (Nat.le_of_ble_eq_true rfl) (xovs (L := [(5, b0, f0, s0), (0, b1, f1, s1), (12, b2, f2, s2)]) (h := h) [(0, (5, b0, f0, s0)), (1, (0, b1, f1, s1)), (2, (12, b2, f2, s2))] ho ⟨rfl, rfl, rfl, trivial⟩).1 (fun x => (xovs (L := [(5, b0, f0, s0), (0, b1, f1, s1), (12, b2, f2, s2)]) (h := h) [(0, (5, b0, (va_up f0 0 (some b1)), x.2.1)), (1, (0, b1, f1, s1)), (2, (12, b2, f2, x.2.2))] ho ⟨rfl, rfl, rfl, trivial⟩).1) (fun x hx => pX5_countOrdersWithF_ok (h := xw [(5, b0, f0, s0), (0, b1, f1, s1), (12, b2, f2, s2)] h) (f0 := f0) (f1 := f1) (f2 := f2) (xok_sub ho [0, 1, 2] rfl (by decide)) hq_0_5 s0 s1 s2 a1 (-1 : Int32) (-1 : Int32) x hx) rfl (fun x1 _ => ?_)
  exact s_lret (pc := 8) dX5_countOrders_8 rfl (fun _ _ q => q)
theorem pX5_countOrdersF_ok (ho : xok [(5, b0), (0, b1), (12, b2)] h.2.1) (hq_0_5 : f0 5 = some b2) (s0 : RS) (s1 : RS) (s2 : RS) (a1 : Int32) : ∀ x, pX5_countOrdersF s0 s1 s2 a1 = some x → aMet l 62 yX5_countOrders cX5_countOrders 3 (some .long) [.ref b0, .ref b1, .int a1] (xw [(5, b0, f0, s0), (0, b1, f1, s1), (12, b2, f2, s2)] h) (some (.long x.1)) (xw [(5, b0, (va_up f0 0 (some b1)), x.2.1), (0, b1, f1, s1), (12, b2, f2, x.2.2)] h) := fun x hx => a_meth (ini := false) (y := yX5_countOrders) (by decide +kernel) (fun q => by cases q) (fun _ => Nat.le_of_ble_eq_true rfl) (pX5_countOrdersF_w ho hq_0_5 s0 s1 s2 a1) x hx _ _ ⟨rfl, rfl⟩
end
section
variable {l : Launch} {n0 S0 : Nat} {h : aH} {b0 b1 b2 : Nat} {f0 f1 f2 : Nat → Option Nat}
def pX5_countOrdersGh (s0 : RS) (s1 : RS) (s2 : RS) (a1 : Int32) : Option (Int32 × Int32 × Int32) :=
  some (a1, (-1 : Int32), (-1 : Int32))
theorem pX5_countOrdersGh_w (ho : xok [(5, b0), (0, b1), (12, b2)] h.2.1) (hq_0_5 : f0 5 = some b2) (s0 : RS) (s1 : RS) (s2 : RS) (a1 : Int32) : aS l 62 MX5_countOrders n0 S0 (fun (x : Int32 × Int32 × Int32) r h' => aEv l 62 MX5_countOrders n0 S0 5 [] [.int x.2.2, .int x.2.1, .int x.1, .ref b1, .ref b0] (xw [(5, b0, f0, s0), (0, b1, f1, s1), (12, b2, f2, s2)] h) r h') 0 [(0, .ref b0), (1, .ref b1), (2, .int a1)] [] (xw [(5, b0, f0, s0), (0, b1, f1, s1), (12, b2, f2, s2)] h) (pX5_countOrdersGh s0 s1 s2 a1) := by
  unfold pX5_countOrdersGh
  refine s_aload_n (pc := 0) 0 dX5_countOrders_0 rfl ?_
  refine s_aload_n (pc := 1) 1 dX5_countOrders_1 rfl ?_
  refine s_iload_n (pc := 2) 2 dX5_countOrders_2 rfl ?_
  refine s_iconst (v := (-1)) (pc := 3) dX5_countOrders_3 (by decide) ?_
  refine s_iconst (v := (-1)) (pc := 4) dX5_countOrders_4 (by decide) ?_
  refine s_sub [] rfl ?_
  exact s_ev (fun _ _ q => q)
end
section
variable {l : Launch} {n0 S0 : Nat} {h : aH} {b0 b1 b2 : Nat} {f0 f1 f2 : Nat → Option Nat}
def pX5_countOrdersGt (s0 : RS) (s1 : RS) (s2 : RS) (k0 : Int64) : Option Int64 :=
  some k0
theorem pX5_countOrdersGt_w (ho : xok [(5, b0), (0, b1), (12, b2)] h.2.1) (s0 : RS) (s1 : RS) (s2 : RS) (k0 : Int64) : aS l 62 MX5_countOrders n0 S0 (oΦ (fun (x : Int64) => ((some (.long x)), xw [(5, b0, f0, s0), (0, b1, f1, s1), (12, b2, f2, s2)] h))) 8 [] [.long k0] (xw [(5, b0, f0, s0), (0, b1, f1, s1), (12, b2, f2, s2)] h) (pX5_countOrdersGt s0 s1 s2 k0) := by
  unfold pX5_countOrdersGt
  exact s_lret (pc := 8) dX5_countOrders_8 rfl (fun _ _ q => q)
end
section
variable {l : Launch} {n0 S0 : Nat} {h : aH} {b0 b1 b2 b3 : Nat} {f0 f1 f2 f3 : Nat → Option Nat}
abbrev MX5_numberOf : aM := (cX5_numberOf, RX5, 10, (some .long), false)
def X5_numberOfF_x6 (l : Launch) (n0 S0 : Nat) (h : aH) (b0 : Nat) (b1 : Nat) (b2 : Nat) (b3 : Nat) (f0 : Nat → Option Nat) (f1 : Nat → Option Nat) (f2 : Nat → Option Nat) (f3 : Nat → Option Nat) (v3 : Int32) (s0 : RS) (s1 : RS) (s2 : RS) (s3 : RS) : Int32 → Option Value → aH → Prop := fun (x : Int32) r h' => aEv l 62 MX5_numberOf n0 S0 36 [(0, .ref b0), (1, .ref b1), (2, .ref (b3 + 16)), (3, .int v3), (4, .int x)] [] (xw [(5, b0, f0, s0), (0, b1, f1, s1), (12, b2, f2, s2), (7, b3, f3, s3)] h) r h'
def X5_numberOfF_b6 (v3 : Int32) (v4 : Int32) (v5 : Int32) (s0 : RS) (s1 : RS) (s2 : RS) (s3 : RS) : Option ((Int32 × Int32) ⊕ Int32) :=
  if v3 ≤ v5 then
    some (.inr v4)
  else
    if (16 : Int32) ≤ v5 then
      some (.inr v4)
    else
      g_in v5 16 (
      thn (v4 ||| ((1 : Int32) <<< ((s3.2.2.1 3 v5.toNatClampNeg) &&& 31))) fun x1 =>
      thn (v5 + 1) fun x2 =>
      some (.inl (x1, x2)))
theorem X5_numberOfF_b6_ok (ho : xok [(5, b0), (0, b1), (12, b2), (7, b3)] h.2.1) (hq_0_5 : f0 5 = some b2) (v3 : Int32) (v4 : Int32) (v5 : Int32) (s0 : RS) (s1 : RS) (s2 : RS) (s3 : RS) : aS l 62 MX5_numberOf n0 S0 (a_LΦ (X5_numberOfF_x6 l n0 S0 h b0 b1 b2 b3 f0 f1 f2 f3 v3 s0 s1 s2 s3) l 62 MX5_numberOf n0 S0 6 (fun (q : Int32 × Int32) => [(0, .ref b0), (1, .ref b1), (2, .ref (b3 + 16)), (3, .int v3), (4, .int q.1), (5, .int q.2)]) (fun _ => []) (fun (q : Int32 × Int32) => xw [(5, b0, f0, s0), (0, b1, f1, s1), (12, b2, f2, s2), (7, b3, f3, s3)] h)) 6 [(0, .ref b0), (1, .ref b1), (2, .ref (b3 + 16)), (3, .int v3), (4, .int v4), (5, .int v5)] [] (xw [(5, b0, f0, s0), (0, b1, f1, s1), (12, b2, f2, s2), (7, b3, f3, s3)] h) (X5_numberOfF_b6 v3 v4 v5 s0 s1 s2 s3) := by
  unfold X5_numberOfF_b6
  refine s_iload (pc := 6) 5 dX5_numberOf_6 rfl ?_
  refine s_iload_n (pc := 8) 3 dX5_numberOf_8 rfl ?_
  refine s_icmp_ge (tgt := 36) (pc := 9) dX5_numberOf_9 (by decide) (fun _ => ?_) (fun _ => ?_)
  · refine s_sub [0, 1, 2, 3, 4] rfl ?_
    exact s_ev (fun _ _ q => q)
  · refine s_iload (pc := 12) 5 dX5_numberOf_12 rfl ?_
    refine s_aload_n (pc := 14) 2 dX5_numberOf_14 rfl ?_
    refine xn_7_3 3 ho rfl (pc := 15) dX5_numberOf_15 ?_
    refine s_icmp_ge (tgt := 36) (pc := 16) dX5_numberOf_16 (by decide) (fun _ => ?_) (fun _ => ?_)
    · refine s_sub [0, 1, 2, 3, 4] rfl ?_
      exact s_ev (fun _ _ q => q)
    · refine s_iload (pc := 19) 4 dX5_numberOf_19 rfl ?_
      refine s_iconst (v := 1) (pc := 21) dX5_numberOf_21 (by decide) ?_
      refine s_aload_n (pc := 22) 2 dX5_numberOf_22 rfl ?_
      refine s_iload (pc := 23) 5 dX5_numberOf_23 rfl ?_
      refine xl_7_3 3 ho rfl (pc := 25) dX5_numberOf_25 ?_
      refine s_ishl (pc := 26) dX5_numberOf_26 ?_
      refine s_ior (pc := 27) dX5_numberOf_27 ?_
      refine s_istoreT (lv' := fun x1 => [(4, .int x1), (0, .ref b0), (1, .ref b1), (2, .ref (b3 + 16)), (3, .int v3), (5, .int v5)]) (pc := 28) dX5_numberOf_28 (by decide) (fun _ => rfl) (fun x1 => ?_)
      refine s_iincT (pc := 30) 5 (lv' := fun x2 => [(5, .int x2), (4, .int x1), (0, .ref b0), (1, .ref b1), (2, .ref (b3 + 16)), (3, .int v3)]) dX5_numberOf_30 rfl rfl (by decide) (fun _ => rfl) (fun x2 => ?_)
      refine s_goto (tgt := 6) (pc := 33) dX5_numberOf_33 (by decide) ?_
      refine s_sub [2, 3, 4, 5, 1, 0] rfl ?_
      exact s_ev (fun _ _ q => q)
def X5_numberOfF_x55 (l : Launch) (n0 S0 : Nat) (h : aH) (b0 : Nat) (b1 : Nat) (b2 : Nat) (b3 : Nat) (f0 : Nat → Option Nat) (f1 : Nat → Option Nat) (f2 : Nat → Option Nat) (f3 : Nat → Option Nat) (v3 : Int32) (s0 : RS) (s1 : RS) (s3 : RS) : (Int64 × RS) → Option Value → aH → Prop := fun (x : Int64 × RS) r h' => aEv l 62 MX5_numberOf n0 S0 148 [(6, .long x.1)] [] (xw [(5, b0, f0, s0), (0, b1, f1, s1), (12, b2, f2, x.2), (7, b3, f3, s3)] h) r h'
def X5_numberOfF_x71 (l : Launch) (n0 S0 : Nat) (h : aH) (b0 : Nat) (b1 : Nat) (b2 : Nat) (b3 : Nat) (f0 : Nat → Option Nat) (f1 : Nat → Option Nat) (f2 : Nat → Option Nat) (f3 : Nat → Option Nat) (v3 : Int32) (v5 : Int32) (v8 : Int32) (s0 : RS) (s1 : RS) (s3 : RS) : (Int64 × RS) → Option Value → aH → Prop := fun (x : Int64 × RS) r h' => aEv l 62 MX5_numberOf n0 S0 131 [(0, .ref b0), (2, .ref (b3 + 16)), (3, .int v3), (5, .int v5), (6, .long x.1), (8, .int v8)] [] (xw [(5, b0, f0, s0), (0, b1, f1, s1), (12, b2, f2, x.2), (7, b3, f3, s3)] h) r h'
def X5_numberOfF_j125 (v3 : Int32) (v5 : Int32) (v6 : Int64) (v8 : Int32) (v9 : Int32) (s0 : RS) (s1 : RS) (s2 : RS) (s3 : RS) : Option ((Int64 × Int32 × RS) ⊕ (Int64 × RS)) :=
  thn (v9 + 1) fun x7 =>
  some (.inl (v6, x7, s2))
theorem X5_numberOfF_j125_ok (ho : xok [(5, b0), (0, b1), (12, b2), (7, b3)] h.2.1) (hq_0_0 : f0 0 = some b1) (hq_0_5 : f0 5 = some b2) (v3 : Int32) (v5 : Int32) (v6 : Int64) (v8 : Int32) (v9 : Int32) (s0 : RS) (s1 : RS) (s2 : RS) (s3 : RS) : aS l 62 MX5_numberOf n0 S0 (a_LΦ (X5_numberOfF_x71 l n0 S0 h b0 b1 b2 b3 f0 f1 f2 f3 v3 v5 v8 s0 s1 s3) l 62 MX5_numberOf n0 S0 71 (fun (q : Int64 × Int32 × RS) => [(0, .ref b0), (2, .ref (b3 + 16)), (3, .int v3), (5, .int v5), (6, .long q.1), (8, .int v8), (9, .int q.2.1)]) (fun _ => []) (fun (q : Int64 × Int32 × RS) => xw [(5, b0, f0, s0), (0, b1, f1, s1), (12, b2, f2, q.2.2), (7, b3, f3, s3)] h)) 125 [(0, .ref b0), (2, .ref (b3 + 16)), (3, .int v3), (5, .int v5), (6, .long v6), (8, .int v8), (9, .int v9)] [] (xw [(5, b0, f0, s0), (0, b1, f1, s1), (12, b2, f2, s2), (7, b3, f3, s3)] h) (X5_numberOfF_j125 v3 v5 v6 v8 v9 s0 s1 s2 s3) := by
  unfold X5_numberOfF_j125
  refine s_iincT (pc := 125) 6 (lv' := fun x7 => [(9, .int x7), (0, .ref b0), (2, .ref (b3 + 16)), (3, .int v3), (5, .int v5), (6, .long v6), (8, .int v8)]) dX5_numberOf_125 rfl rfl (by decide) (fun _ => rfl) (fun x7 => ?_)
  refine s_goto (tgt := 71) (pc := 128) dX5_numberOf_128 (by decide) ?_
  refine s_sub [1, 2, 3, 4, 5, 6, 0] rfl ?_
  exact s_ev (fun _ _ q => q)
def X5_numberOfF_b71 (v3 : Int32) (v5 : Int32) (v8 : Int32) (v6 : Int64) (v9 : Int32) (s0 : RS) (s1 : RS) (s2 : RS) (s3 : RS) : Option ((Int64 × Int32 × RS) ⊕ (Int64 × RS)) :=
  g_in v8 16 (
  if (s3.2.2.1 3 v8.toNatClampNeg) ≤ v9 then
    some (.inr (v6, s2))
  else
    (pX0_isIn ((s0.1 1) &&& (v5 ^^^ (-1 : Int32))) v9).bind fun x6 =>
    if x6 = true then
      (pX5_isReady s0 s1 v9 v5).bind fun x8 =>
      if x8 = true then
        (pX5_waysBehind 20 s0 s1 s2 (v5 ||| ((1 : Int32) <<< (v9 &&& 31))) (0 : Int32)).bind fun x9 =>
        thn (v6 + x9.1) fun x10 =>
        X5_numberOfF_j125 v3 v5 x10 v8 v9 s0 s1 x9.2 s3
      else
        X5_numberOfF_j125 v3 v5 v6 v8 v9 s0 s1 s2 s3
    else
      X5_numberOfF_j125 v3 v5 v6 v8 v9 s0 s1 s2 s3)
theorem X5_numberOfF_b71_ok (ho : xok [(5, b0), (0, b1), (12, b2), (7, b3)] h.2.1) (hq_0_0 : f0 0 = some b1) (hq_0_5 : f0 5 = some b2) (v3 : Int32) (v5 : Int32) (v8 : Int32) (v6 : Int64) (v9 : Int32) (s0 : RS) (s1 : RS) (s2 : RS) (s3 : RS) : aS l 62 MX5_numberOf n0 S0 (a_LΦ (X5_numberOfF_x71 l n0 S0 h b0 b1 b2 b3 f0 f1 f2 f3 v3 v5 v8 s0 s1 s3) l 62 MX5_numberOf n0 S0 71 (fun (q : Int64 × Int32 × RS) => [(0, .ref b0), (2, .ref (b3 + 16)), (3, .int v3), (5, .int v5), (6, .long q.1), (8, .int v8), (9, .int q.2.1)]) (fun _ => []) (fun (q : Int64 × Int32 × RS) => xw [(5, b0, f0, s0), (0, b1, f1, s1), (12, b2, f2, q.2.2), (7, b3, f3, s3)] h)) 71 [(0, .ref b0), (2, .ref (b3 + 16)), (3, .int v3), (5, .int v5), (6, .long v6), (8, .int v8), (9, .int v9)] [] (xw [(5, b0, f0, s0), (0, b1, f1, s1), (12, b2, f2, s2), (7, b3, f3, s3)] h) (X5_numberOfF_b71 v3 v5 v8 v6 v9 s0 s1 s2 s3) := by
  unfold X5_numberOfF_b71
  refine s_iload (pc := 71) 6 dX5_numberOf_71 rfl ?_
  refine s_aload_n (pc := 73) 1 dX5_numberOf_73 rfl ?_
  refine s_iload (pc := 74) 5 dX5_numberOf_74 rfl ?_
  refine xl_7_3 3 ho rfl (pc := 76) dX5_numberOf_76 ?_
  refine s_icmp_ge (tgt := 131) (pc := 77) dX5_numberOf_77 (by decide) (fun _ => ?_) (fun _ => ?_)
  · refine s_sub [0, 1, 2, 3, 4, 5] rfl ?_
    exact s_ev (fun _ _ q => q)
  · refine s_aload_n (pc := 80) 0 dX5_numberOf_80 rfl ?_
    refine xg_X5_18 0 ho rfl (pc := 81) dX5_numberOf_81 rfl ?_
    refine s_iload (pc := 84) 3 dX5_numberOf_84 rfl ?_
    refine s_iconst (v := (-1)) (pc := 86) dX5_numberOf_86 (by decide) ?_
    refine s_ixor (pc := 87) dX5_numberOf_87 ?_
    refine s_iand (pc := 88) dX5_numberOf_88 ?_
    refine s_iload (pc := 89) 6 dX5_numberOf_89 rfl ?_
    refine s_callS (M := MX5_numberOf) (As := [.int ((s0.1 1) &&& (v5 ^^^ (-1 : Int32))), .int v9]) (st := []) (Ψ := fun (x : Bool) => (some (.int (b2i x)), xw [(5, b0, f0, s0), (0, b1, f1, s1), (12, b2, f2, s2), (7, b3, f3, s3)] h)) cs_X5_54 (by decide) (pc := 91) dX5_numberOf_91 rfl (Nat.le_of_ble_eq_true rfl) (fun x hx => pX0_isIn_ok ((s0.1 1) &&& (v5 ^^^ (-1 : Int32))) v9 x hx) rfl (fun x6 _ => ?_)
    refine s_if_eqB (tgt := 125) (pc := 94) dX5_numberOf_94 (by decide) (fun _ => ?_) (fun _ => ?_)
    · refine s_aload_n (pc := 97) 0 dX5_numberOf_97 rfl ?_
      refine s_iload (pc := 98) 6 dX5_numberOf_98 rfl ?_
      refine s_iload (pc := 100) 3 dX5_numberOf_100 rfl ?_
      refine x_callV (M := MX5_numberOf) (L := [(5, b0, f0, s0), (0, b1, f1, s1), (12, b2, f2, s2), (7, b3, f3, s3)]) (h := h) (j := 0) (As := [.int v9, .int v5]) (st := []) (A := fun (x : Bool) => some (.int (b2i x))) (Lc := [(5, b0, f0, s0), (0, b1, f1, s1)]) (Lr := fun (x : Bool) => [(5, b0, f0, s0), (0, b1, f1, s1)]) (L2 := fun (x : Bool) => [(5, b0, f0, s0), (0, b1, f1, s1), (12, b2, f2, s2), (7, b3, f3, s3)]) cv_X5_80 (by decide) (pc := 102) dX5_numberOf_102 ho rfl xc0_5 rfl rfl (Nat.le_of_ble_eq_true rfl) (xovs (L := [(5, b0, f0, s0), (0, b1, f1, s1), (12, b2, f2, s2), (7, b3, f3, s3)]) (h := h) [(0, (5, b0, f0, s0)), (1, (0, b1, f1, s1))] ho ⟨rfl, rfl, trivial⟩).1 (fun x => (xovs (L := [(5, b0, f0, s0), (0, b1, f1, s1), (12, b2, f2, s2), (7, b3, f3, s3)]) (h := h) [(0, (5, b0, f0, s0)), (1, (0, b1, f1, s1))] ho ⟨rfl, rfl, trivial⟩).1) (fun x hx => pX5_isReady_ok (h := xw [(5, b0, f0, s0), (0, b1, f1, s1), (12, b2, f2, s2), (7, b3, f3, s3)] h) (f0 := f0) (f1 := f1) (xok_sub ho [0, 1] rfl (by decide)) hq_0_0 s0 s1 v9 v5 x hx) rfl (fun x8 _ => ?_)
      refine s_if_eqB (tgt := 125) (pc := 105) dX5_numberOf_105 (by decide) (fun _ => ?_) (fun _ => ?_)
      · refine s_lload (pc := 108) 4 dX5_numberOf_108 rfl ?_
        refine s_aload_n (pc := 110) 0 dX5_numberOf_110 rfl ?_
        refine s_iload (pc := 111) 3 dX5_numberOf_111 rfl ?_
        refine s_iconst (v := 1) (pc := 113) dX5_numberOf_113 (by decide) ?_
        refine s_iload (pc := 114) 6 dX5_numberOf_114 rfl ?_
        refine s_ishl (pc := 116) dX5_numberOf_116 ?_
        refine s_ior (pc := 117) dX5_numberOf_117 ?_
        refine s_iconst (v := 0) (pc := 118) dX5_numberOf_118 (by decide) ?_
        refine x_callV (M := MX5_numberOf) (L := [(5, b0, f0, s0), (0, b1, f1, s1), (12, b2, f2, s2), (7, b3, f3, s3)]) (h := h) (j := 0) (As := [.int (v5 ||| ((1 : Int32) <<< (v9 &&& 31))), .int 0]) (st := [.long v6]) (A := fun (x : Int64 × RS) => some (.long x.1)) (Lc := [(5, b0, f0, s0), (0, b1, f1, s1), (12, b2, f2, s2)]) (Lr := fun (x : Int64 × RS) => [(5, b0, f0, s0), (0, b1, f1, s1), (12, b2, f2, x.2)]) (L2 := fun (x : Int64 × RS) => [(5, b0, f0, s0), (0, b1, f1, s1), (12, b2, f2, x.2), (7, b3, f3, s3)]) cv_X5_43 (by decide) (pc := 119) dX5_numberOf_119 ho rfl xc0_5 rfl rfl (Nat.le_of_ble_eq_true rfl) (xovs (L := [(5, b0, f0, s0), (0, b1, f1, s1), (12, b2, f2, s2), (7, b3, f3, s3)]) (h := h) [(0, (5, b0, f0, s0)), (1, (0, b1, f1, s1)), (2, (12, b2, f2, s2))] ho ⟨rfl, rfl, rfl, trivial⟩).1 (fun x => (xovs (L := [(5, b0, f0, s0), (0, b1, f1, s1), (12, b2, f2, s2), (7, b3, f3, s3)]) (h := h) [(0, (5, b0, f0, s0)), (1, (0, b1, f1, s1)), (2, (12, b2, f2, x.2))] ho ⟨rfl, rfl, rfl, trivial⟩).1) (fun x hx => pX5_waysBehind_ok (h := xw [(5, b0, f0, s0), (0, b1, f1, s1), (12, b2, f2, s2), (7, b3, f3, s3)] h) (f0 := f0) (f1 := f1) (f2 := f2) (xok_sub ho [0, 1, 2] rfl (by decide)) hq_0_0 hq_0_5 20 s0 s1 s2 (v5 ||| ((1 : Int32) <<< (v9 &&& 31))) (0 : Int32) x hx) rfl (fun x9 _ => ?_)
        refine s_ladd (pc := 122) dX5_numberOf_122 ?_
        refine s_lstoreT (lv' := fun x10 => [(6, .long x10), (0, .ref b0), (2, .ref (b3 + 16)), (3, .int v3), (5, .int v5), (8, .int v8), (9, .int v9)]) (pc := 123) dX5_numberOf_123 (by decide) (fun _ => rfl) (fun x10 => ?_)
        refine s_sub [1, 2, 3, 4, 0, 5, 6] rfl ?_
        exact X5_numberOfF_j125_ok ho hq_0_0 hq_0_5 v3 v5 x10 v8 v9 s0 s1 x9.2 s3
      · exact X5_numberOfF_j125_ok ho hq_0_0 hq_0_5 v3 v5 v6 v8 v9 s0 s1 s2 s3
    · exact X5_numberOfF_j125_ok ho hq_0_0 hq_0_5 v3 v5 v6 v8 v9 s0 s1 s2 s3
def X5_numberOfF_b55 (v3 : Int32) (v5 : Int32) (v6 : Int64) (v8 : Int32) (s0 : RS) (s1 : RS) (s2 : RS) (s3 : RS) : Option ((Int32 × Int64 × Int32 × RS) ⊕ (Int64 × RS)) :=
  if v3 ≤ v8 then
    some (.inr (v6, s2))
  else
    if (16 : Int32) ≤ v8 then
      some (.inr (v6, s2))
    else
      (a_loop (fun (q : Int64 × Int32 × RS) => X5_numberOfF_b71 v3 v5 v8 q.1 q.2.1 s0 s1 q.2.2 s3) FU (v6, (0 : Int32), s2)).bind fun (t11 : Int64 × RS) =>
        g_in v8 16 (
        thn (v5 ||| ((1 : Int32) <<< ((s3.2.2.1 3 v8.toNatClampNeg) &&& 31))) fun x12 =>
        thn (v8 + 1) fun x13 =>
        some (.inl (x12, t11.1, x13, t11.2)))
theorem X5_numberOfF_b55_ok (ho : xok [(5, b0), (0, b1), (12, b2), (7, b3)] h.2.1) (hq_0_0 : f0 0 = some b1) (hq_0_5 : f0 5 = some b2) (v3 : Int32) (v5 : Int32) (v6 : Int64) (v8 : Int32) (s0 : RS) (s1 : RS) (s2 : RS) (s3 : RS) : aS l 62 MX5_numberOf n0 S0 (a_LΦ (X5_numberOfF_x55 l n0 S0 h b0 b1 b2 b3 f0 f1 f2 f3 v3 s0 s1 s3) l 62 MX5_numberOf n0 S0 55 (fun (q : Int32 × Int64 × Int32 × RS) => [(0, .ref b0), (2, .ref (b3 + 16)), (3, .int v3), (5, .int q.1), (6, .long q.2.1), (8, .int q.2.2.1)]) (fun _ => []) (fun (q : Int32 × Int64 × Int32 × RS) => xw [(5, b0, f0, s0), (0, b1, f1, s1), (12, b2, f2, q.2.2.2), (7, b3, f3, s3)] h)) 55 [(0, .ref b0), (2, .ref (b3 + 16)), (3, .int v3), (5, .int v5), (6, .long v6), (8, .int v8)] [] (xw [(5, b0, f0, s0), (0, b1, f1, s1), (12, b2, f2, s2), (7, b3, f3, s3)] h) (X5_numberOfF_b55 v3 v5 v6 v8 s0 s1 s2 s3) := by
  unfold X5_numberOfF_b55
  refine s_iload (pc := 55) 5 dX5_numberOf_55 rfl ?_
  refine s_iload_n (pc := 57) 2 dX5_numberOf_57 rfl ?_
  refine s_icmp_ge (tgt := 148) (pc := 58) dX5_numberOf_58 (by decide) (fun _ => ?_) (fun _ => ?_)
  · refine s_sub [4] rfl ?_
    exact s_ev (fun _ _ q => q)
  · refine s_iload (pc := 61) 5 dX5_numberOf_61 rfl ?_
    refine s_aload_n (pc := 63) 1 dX5_numberOf_63 rfl ?_
    refine xn_7_3 3 ho rfl (pc := 64) dX5_numberOf_64 ?_
    refine s_icmp_ge (tgt := 148) (pc := 65) dX5_numberOf_65 (by decide) (fun _ => ?_) (fun _ => ?_)
    · refine s_sub [4] rfl ?_
      exact s_ev (fun _ _ q => q)
    · refine s_iconst (v := 0) (pc := 68) dX5_numberOf_68 (by decide) ?_
      refine s_istore (lv' := [(9, .int 0), (0, .ref b0), (2, .ref (b3 + 16)), (3, .int v3), (5, .int v5), (6, .long v6), (8, .int v8)]) (pc := 69) dX5_numberOf_69 (by decide) rfl ?_
      refine s_bind (Ψ := X5_numberOfF_x71 l n0 S0 h b0 b1 b2 b3 f0 f1 f2 f3 v3 v5 v8 s0 s1 s3) ?_ ?_
      · refine s_sub [1, 2, 3, 4, 5, 6, 0] rfl ?_
        exact s_loop (lvf := fun (q : Int64 × Int32 × RS) => [(0, .ref b0), (2, .ref (b3 + 16)), (3, .int v3), (5, .int v5), (6, .long q.1), (8, .int v8), (9, .int q.2.1)]) (stf := fun _ => []) (hf := fun (q : Int64 × Int32 × RS) => xw [(5, b0, f0, s0), (0, b1, f1, s1), (12, b2, f2, q.2.2), (7, b3, f3, s3)] h) (fun q => X5_numberOfF_b71_ok ho hq_0_0 hq_0_5 v3 v5 v8 q.1 q.2.1 s0 s1 q.2.2 s3) FU (v6, (0 : Int32), s2)
      · intro t11 z r h' hz hr
        refine (?_ : aS l 62 MX5_numberOf n0 S0 (a_LΦ (X5_numberOfF_x55 l n0 S0 h b0 b1 b2 b3 f0 f1 f2 f3 v3 s0 s1 s3) l 62 MX5_numberOf n0 S0 55 (fun (q : Int32 × Int64 × Int32 × RS) => [(0, .ref b0), (2, .ref (b3 + 16)), (3, .int v3), (5, .int q.1), (6, .long q.2.1), (8, .int q.2.2.1)]) (fun _ => []) (fun (q : Int32 × Int64 × Int32 × RS) => xw [(5, b0, f0, s0), (0, b1, f1, s1), (12, b2, f2, q.2.2.2), (7, b3, f3, s3)] h)) 131 [(0, .ref b0), (2, .ref (b3 + 16)), (3, .int v3), (5, .int v5), (6, .long t11.1), (8, .int v8)] [] (xw [(5, b0, f0, s0), (0, b1, f1, s1), (12, b2, f2, t11.2), (7, b3, f3, s3)] h) _) z hz r h' hr
        refine s_iload (pc := 131) 3 dX5_numberOf_131 rfl ?_
        refine s_iconst (v := 1) (pc := 133) dX5_numberOf_133 (by decide) ?_
        refine s_aload_n (pc := 134) 1 dX5_numberOf_134 rfl ?_
        refine s_iload (pc := 135) 5 dX5_numberOf_135 rfl ?_
        refine xl_7_3 3 ho rfl (pc := 137) dX5_numberOf_137 ?_
        refine s_ishl (pc := 138) dX5_numberOf_138 ?_
        refine s_ior (pc := 139) dX5_numberOf_139 ?_
        refine s_istoreT (lv' := fun x12 => [(5, .int x12), (0, .ref b0), (2, .ref (b3 + 16)), (3, .int v3), (6, .long t11.1), (8, .int v8)]) (pc := 140) dX5_numberOf_140 (by decide) (fun _ => rfl) (fun x12 => ?_)
        refine s_iincT (pc := 142) 5 (lv' := fun x13 => [(8, .int x13), (5, .int x12), (0, .ref b0), (2, .ref (b3 + 16)), (3, .int v3), (6, .long t11.1)]) dX5_numberOf_142 rfl rfl (by decide) (fun _ => rfl) (fun x13 => ?_)
        refine s_goto (tgt := 55) (pc := 145) dX5_numberOf_145 (by decide) ?_
        refine s_sub [2, 3, 4, 1, 5, 0] rfl ?_
        exact s_ev (fun _ _ q => q)
def X5_numberOfF_j36 (v3 : Int32) (v4 : Int32) (s0 : RS) (s1 : RS) (s2 : RS) (s3 : RS) : Option (Int64 × RS × RS) :=
  (pX5_countOrdersWithF s0 s1 s2 v4 (-1 : Int32) (-1 : Int32)).bind fun x4 =>
  thn (0 : Int64) fun x5 =>
  (a_loop (fun (q : Int32 × Int64 × Int32 × RS) => X5_numberOfF_b55 v3 q.1 q.2.1 q.2.2.1 x4.2.1 s1 q.2.2.2 s3) FU ((0 : Int32), x5, (0 : Int32), x4.2.2)).bind fun (t14 : Int64 × RS) =>
    some (t14.1, x4.2.1, t14.2)
theorem X5_numberOfF_j36_ok (ho : xok [(5, b0), (0, b1), (12, b2), (7, b3)] h.2.1) (hq_0_5 : f0 5 = some b2) (v3 : Int32) (v4 : Int32) (s0 : RS) (s1 : RS) (s2 : RS) (s3 : RS) : aS l 62 MX5_numberOf n0 S0 (oΦ (fun (x : Int64 × RS × RS) => ((some (.long x.1)), xw [(5, b0, (va_up f0 0 (some b1)), x.2.1), (0, b1, f1, s1), (12, b2, f2, x.2.2), (7, b3, f3, s3)] h))) 36 [(0, .ref b0), (1, .ref b1), (2, .ref (b3 + 16)), (3, .int v3), (4, .int v4)] [] (xw [(5, b0, f0, s0), (0, b1, f1, s1), (12, b2, f2, s2), (7, b3, f3, s3)] h) (X5_numberOfF_j36 v3 v4 s0 s1 s2 s3) := by
  unfold X5_numberOfF_j36
  refine s_aload_n (pc := 36) 0 dX5_numberOf_36 rfl ?_
  refine s_aload_n (pc := 37) 1 dX5_numberOf_37 rfl ?_
  refine s_iload (pc := 38) 4 dX5_numberOf_38 rfl ?_
  refine s_iconst (v := (-1)) (pc := 40) dX5_numberOf_40 (by decide) ?_
  refine s_iconst (v := (-1)) (pc := 41) dX5_numberOf_41 (by decide) ?_
  refine x_callV (M := MX5_numberOf) (L := [(5, b0, f0, s0), (0, b1, f1, s1), (12, b2, f2, s2), (7, b3, f3, s3)]) (h := h) (j := 0) (As := [.ref b1, .int v4, .int (-1), .int (-1)]) (st := []) (A := fun (x : Int64 × RS × RS) => some (.long x.1)) (Lc := [(5, b0, f0, s0), (0, b1, f1, s1), (12, b2, f2, s2)]) (Lr := fun (x : Int64 × RS × RS) => [(5, b0, (va_up f0 0 (some b1)), x.2.1), (0, b1, f1, s1), (12, b2, f2, x.2.2)]) (L2 := fun (x : Int64 × RS × RS) => [(5, b0, (va_up f0 0 (some b1)), x.2.1), (0, b1, f1, s1), (12, b2, f2, x.2.2), (7, b3, f3, s3)]) cv_X5_35 (by decide) (pc := 42) dX5_numberOf_42 ho rfl xc0_5 rfl rfl (Nat.le_of_ble_eq_true rfl) (xovs (L := [(5, b0, f0, s0), (0, b1, f1, s1), (12, b2, f2, s2), (7, b3, f3, s3)]) (h := h) [(0, (5, b0, f0, s0)), (1, (0, b1, f1, s1)), (2, (12, b2, f2, s2))] ho ⟨rfl, rfl, rfl, trivial⟩).1 (fun x => (xovs (L := [(5, b0, f0, s0), (0, b1, f1, s1), (12, b2, f2, s2), (7, b3, f3, s3)]) (h := h) [(0, (5, b0, (va_up f0 0 (some b1)), x.2.1)), (1, (0, b1, f1, s1)), (2, (12, b2, f2, x.2.2))] ho ⟨rfl, rfl, rfl, trivial⟩).1) (fun x hx => pX5_countOrdersWithF_ok (h := xw [(5, b0, f0, s0), (0, b1, f1, s1), (12, b2, f2, s2), (7, b3, f3, s3)] h) (f0 := f0) (f1 := f1) (f2 := f2) (xok_sub ho [0, 1, 2] rfl (by decide)) hq_0_5 s0 s1 s2 v4 (-1 : Int32) (-1 : Int32) x hx) rfl (fun x4 _ => ?_)
  refine s_pop2_2 (pc := 45) dX5_numberOf_45 rfl ?_
  refine s_iconst (v := 0) (pc := 46) dX5_numberOf_46 (by decide) ?_
  refine s_istore (lv' := [(5, .int 0), (0, .ref b0), (1, .ref b1), (2, .ref (b3 + 16)), (3, .int v3), (4, .int v4)]) (pc := 47) dX5_numberOf_47 (by decide) rfl ?_
  refine s_lconst (v := 0) (pc := 49) dX5_numberOf_49 (by decide) ?_
  refine s_lstoreT (lv' := fun x5 => [(6, .long x5), (5, .int 0), (0, .ref b0), (1, .ref b1), (2, .ref (b3 + 16)), (3, .int v3), (4, .int v4)]) (pc := 50) dX5_numberOf_50 (by decide) (fun _ => rfl) (fun x5 => ?_)
  refine s_iconst (v := 0) (pc := 52) dX5_numberOf_52 (by decide) ?_
  refine s_istore (lv' := [(8, .int 0), (6, .long x5), (5, .int 0), (0, .ref b0), (1, .ref b1), (2, .ref (b3 + 16)), (3, .int v3), (4, .int v4)]) (pc := 53) dX5_numberOf_53 (by decide) rfl ?_
  refine s_bind (Ψ := X5_numberOfF_x55 l n0 S0 h b0 b1 b2 b3 (va_up f0 0 (some b1)) f1 f2 f3 v3 x4.2.1 s1 s3) ?_ ?_
  · refine s_sub [3, 5, 6, 2, 1, 0] rfl ?_
    exact s_loop (lvf := fun (q : Int32 × Int64 × Int32 × RS) => [(0, .ref b0), (2, .ref (b3 + 16)), (3, .int v3), (5, .int q.1), (6, .long q.2.1), (8, .int q.2.2.1)]) (stf := fun _ => []) (hf := fun (q : Int32 × Int64 × Int32 × RS) => xw [(5, b0, (va_up f0 0 (some b1)), x4.2.1), (0, b1, f1, s1), (12, b2, f2, q.2.2.2), (7, b3, f3, s3)] h) (fun q => X5_numberOfF_b55_ok (f0 := (va_up f0 0 (some b1))) ho rfl hq_0_5 v3 q.1 q.2.1 q.2.2.1 x4.2.1 s1 q.2.2.2 s3) FU ((0 : Int32), x5, (0 : Int32), x4.2.2)
  · intro t14 z r h' hz hr
    refine (?_ : aS l 62 MX5_numberOf n0 S0 (oΦ (fun (x : Int64 × RS × RS) => ((some (.long x.1)), xw [(5, b0, (va_up f0 0 (some b1)), x.2.1), (0, b1, f1, s1), (12, b2, f2, x.2.2), (7, b3, f3, s3)] h))) 148 [(6, .long t14.1)] [] (xw [(5, b0, (va_up f0 0 (some b1)), x4.2.1), (0, b1, f1, s1), (12, b2, f2, t14.2), (7, b3, f3, s3)] h) _) z hz r h' hr
    refine s_lload (pc := 148) 0 dX5_numberOf_148 rfl ?_
    exact s_lret (pc := 150) dX5_numberOf_150 rfl (fun _ _ q => q)
def pX5_numberOfF (s0 : RS) (s1 : RS) (s2 : RS) (s3 : RS) (a2 : Int32) : Option (Int64 × RS × RS) :=
  (a_loop (fun (q : Int32 × Int32) => X5_numberOfF_b6 a2 q.1 q.2 s0 s1 s2 s3) FU ((0 : Int32), (0 : Int32))).bind fun (t3 : Int32) =>
    X5_numberOfF_j36 a2 t3 s0 s1 s2 s3
theorem pX5_numberOfF_w (ho : xok [(5, b0), (0, b1), (12, b2), (7, b3)] h.2.1) (hq_0_5 : f0 5 = some b2) (s0 : RS) (s1 : RS) (s2 : RS) (s3 : RS) (a2 : Int32) : aS l 62 MX5_numberOf n0 S0 (oΦ (fun (x : Int64 × RS × RS) => ((some (.long x.1)), xw [(5, b0, (va_up f0 0 (some b1)), x.2.1), (0, b1, f1, s1), (12, b2, f2, x.2.2), (7, b3, f3, s3)] h))) 0 [(0, .ref b0), (1, .ref b1), (2, .ref (b3 + 16)), (3, .int a2)] [] (xw [(5, b0, f0, s0), (0, b1, f1, s1), (12, b2, f2, s2), (7, b3, f3, s3)] h) (pX5_numberOfF s0 s1 s2 s3 a2) := by
  unfold pX5_numberOfF
  refine s_iconst (v := 0) (pc := 0) dX5_numberOf_0 (by decide) ?_
  refine s_istore (lv' := [(4, .int 0), (0, .ref b0), (1, .ref b1), (2, .ref (b3 + 16)), (3, .int a2)]) (pc := 1) dX5_numberOf_1 (by decide) rfl ?_
  refine s_iconst (v := 0) (pc := 3) dX5_numberOf_3 (by decide) ?_
  refine s_istore (lv' := [(5, .int 0), (4, .int 0), (0, .ref b0), (1, .ref b1), (2, .ref (b3 + 16)), (3, .int a2)]) (pc := 4) dX5_numberOf_4 (by decide) rfl ?_
  refine s_bind (Ψ := X5_numberOfF_x6 l n0 S0 h b0 b1 b2 b3 f0 f1 f2 f3 a2 s0 s1 s2 s3) ?_ ?_
  · refine s_sub [2, 3, 4, 5, 1, 0] rfl ?_
    exact s_loop (lvf := fun (q : Int32 × Int32) => [(0, .ref b0), (1, .ref b1), (2, .ref (b3 + 16)), (3, .int a2), (4, .int q.1), (5, .int q.2)]) (stf := fun _ => []) (hf := fun (q : Int32 × Int32) => xw [(5, b0, f0, s0), (0, b1, f1, s1), (12, b2, f2, s2), (7, b3, f3, s3)] h) (fun q => X5_numberOfF_b6_ok ho hq_0_5 a2 q.1 q.2 s0 s1 s2 s3) FU ((0 : Int32), (0 : Int32))
  · intro t3 z r h' hz hr
    refine (?_ : aS l 62 MX5_numberOf n0 S0 (oΦ (fun (x : Int64 × RS × RS) => ((some (.long x.1)), xw [(5, b0, (va_up f0 0 (some b1)), x.2.1), (0, b1, f1, s1), (12, b2, f2, x.2.2), (7, b3, f3, s3)] h))) 36 [(0, .ref b0), (1, .ref b1), (2, .ref (b3 + 16)), (3, .int a2), (4, .int t3)] [] (xw [(5, b0, f0, s0), (0, b1, f1, s1), (12, b2, f2, s2), (7, b3, f3, s3)] h) _) z hz r h' hr
    exact X5_numberOfF_j36_ok ho hq_0_5 a2 t3 s0 s1 s2 s3
theorem pX5_numberOfF_ok (ho : xok [(5, b0), (0, b1), (12, b2), (7, b3)] h.2.1) (hq_0_5 : f0 5 = some b2) (s0 : RS) (s1 : RS) (s2 : RS) (s3 : RS) (a2 : Int32) : ∀ x, pX5_numberOfF s0 s1 s2 s3 a2 = some x → aMet l 62 yX5_numberOf cX5_numberOf 10 (some .long) [.ref b0, .ref b1, .ref (b3 + 16), .int a2] (xw [(5, b0, f0, s0), (0, b1, f1, s1), (12, b2, f2, s2), (7, b3, f3, s3)] h) (some (.long x.1)) (xw [(5, b0, (va_up f0 0 (some b1)), x.2.1), (0, b1, f1, s1), (12, b2, f2, x.2.2), (7, b3, f3, s3)] h) := fun x hx => a_meth (ini := false) (y := yX5_numberOf) (by decide +kernel) (fun q => by cases q) (fun _ => Nat.le_of_ble_eq_true rfl) (pX5_numberOfF_w ho hq_0_5 s0 s1 s2 s3 a2) x hx _ _ ⟨rfl, rfl⟩
end
section
variable {l : Launch} {n0 S0 : Nat} {h : aH} {b0 b1 b2 b3 : Nat} {f0 f1 f2 f3 : Nat → Option Nat}
def X5_numberOfGh_x6 (l : Launch) (n0 S0 : Nat) (h : aH) (b0 : Nat) (b1 : Nat) (b2 : Nat) (b3 : Nat) (f0 : Nat → Option Nat) (f1 : Nat → Option Nat) (f2 : Nat → Option Nat) (f3 : Nat → Option Nat) (v3 : Int32) (s0 : RS) (s1 : RS) (s2 : RS) (s3 : RS) : Int32 → Option Value → aH → Prop := fun (x : Int32) r h' => aEv l 63 MX5_numberOf n0 S0 36 [(0, .ref b0), (1, .ref b1), (2, .ref (b3 + 16)), (3, .int v3), (4, .int x)] [] (xw [(5, b0, f0, s0), (0, b1, f1, s1), (12, b2, f2, s2), (7, b3, f3, s3)] h) r h'
def X5_numberOfGh_b6 (v3 : Int32) (v4 : Int32) (v5 : Int32) (s0 : RS) (s1 : RS) (s2 : RS) (s3 : RS) : Option ((Int32 × Int32) ⊕ Int32) :=
  if v3 ≤ v5 then
    some (.inr v4)
  else
    if (16 : Int32) ≤ v5 then
      some (.inr v4)
    else
      g_in v5 16 (
      thn (v4 ||| ((1 : Int32) <<< ((s3.2.2.1 3 v5.toNatClampNeg) &&& 31))) fun x1 =>
      thn (v5 + 1) fun x2 =>
      some (.inl (x1, x2)))
theorem X5_numberOfGh_b6_ok (ho : xok [(5, b0), (0, b1), (12, b2), (7, b3)] h.2.1) (hq_0_5 : f0 5 = some b2) (v3 : Int32) (v4 : Int32) (v5 : Int32) (s0 : RS) (s1 : RS) (s2 : RS) (s3 : RS) : aS l 63 MX5_numberOf n0 S0 (a_LΦ (X5_numberOfGh_x6 l n0 S0 h b0 b1 b2 b3 f0 f1 f2 f3 v3 s0 s1 s2 s3) l 63 MX5_numberOf n0 S0 6 (fun (q : Int32 × Int32) => [(0, .ref b0), (1, .ref b1), (2, .ref (b3 + 16)), (3, .int v3), (4, .int q.1), (5, .int q.2)]) (fun _ => []) (fun (q : Int32 × Int32) => xw [(5, b0, f0, s0), (0, b1, f1, s1), (12, b2, f2, s2), (7, b3, f3, s3)] h)) 6 [(0, .ref b0), (1, .ref b1), (2, .ref (b3 + 16)), (3, .int v3), (4, .int v4), (5, .int v5)] [] (xw [(5, b0, f0, s0), (0, b1, f1, s1), (12, b2, f2, s2), (7, b3, f3, s3)] h) (X5_numberOfGh_b6 v3 v4 v5 s0 s1 s2 s3) := by
  unfold X5_numberOfGh_b6
  refine s_iload (pc := 6) 5 dX5_numberOf_6 rfl ?_
  refine s_iload_n (pc := 8) 3 dX5_numberOf_8 rfl ?_
  refine s_icmp_ge (tgt := 36) (pc := 9) dX5_numberOf_9 (by decide) (fun _ => ?_) (fun _ => ?_)
  · refine s_sub [0, 1, 2, 3, 4] rfl ?_
    exact s_ev (fun _ _ q => q)
  · refine s_iload (pc := 12) 5 dX5_numberOf_12 rfl ?_
    refine s_aload_n (pc := 14) 2 dX5_numberOf_14 rfl ?_
    refine xn_7_3 3 ho rfl (pc := 15) dX5_numberOf_15 ?_
    refine s_icmp_ge (tgt := 36) (pc := 16) dX5_numberOf_16 (by decide) (fun _ => ?_) (fun _ => ?_)
    · refine s_sub [0, 1, 2, 3, 4] rfl ?_
      exact s_ev (fun _ _ q => q)
    · refine s_iload (pc := 19) 4 dX5_numberOf_19 rfl ?_
      refine s_iconst (v := 1) (pc := 21) dX5_numberOf_21 (by decide) ?_
      refine s_aload_n (pc := 22) 2 dX5_numberOf_22 rfl ?_
      refine s_iload (pc := 23) 5 dX5_numberOf_23 rfl ?_
      refine xl_7_3 3 ho rfl (pc := 25) dX5_numberOf_25 ?_
      refine s_ishl (pc := 26) dX5_numberOf_26 ?_
      refine s_ior (pc := 27) dX5_numberOf_27 ?_
      refine s_istoreT (lv' := fun x1 => [(4, .int x1), (0, .ref b0), (1, .ref b1), (2, .ref (b3 + 16)), (3, .int v3), (5, .int v5)]) (pc := 28) dX5_numberOf_28 (by decide) (fun _ => rfl) (fun x1 => ?_)
      refine s_iincT (pc := 30) 5 (lv' := fun x2 => [(5, .int x2), (4, .int x1), (0, .ref b0), (1, .ref b1), (2, .ref (b3 + 16)), (3, .int v3)]) dX5_numberOf_30 rfl rfl (by decide) (fun _ => rfl) (fun x2 => ?_)
      refine s_goto (tgt := 6) (pc := 33) dX5_numberOf_33 (by decide) ?_
      refine s_sub [2, 3, 4, 5, 1, 0] rfl ?_
      exact s_ev (fun _ _ q => q)
def X5_numberOfGh_j36 (v3 : Int32) (v4 : Int32) (s0 : RS) (s1 : RS) (s2 : RS) (s3 : RS) : Option (Int32 × Int32 × Int32 × Int32) :=
  some (v3, v4, (-1 : Int32), (-1 : Int32))
theorem X5_numberOfGh_j36_ok (ho : xok [(5, b0), (0, b1), (12, b2), (7, b3)] h.2.1) (hq_0_5 : f0 5 = some b2) (v3 : Int32) (v4 : Int32) (s0 : RS) (s1 : RS) (s2 : RS) (s3 : RS) : aS l 63 MX5_numberOf n0 S0 (fun (x : Int32 × Int32 × Int32 × Int32) r h' => aEv l 63 MX5_numberOf n0 S0 42 [(0, .ref b0), (2, .ref (b3 + 16)), (3, .int x.1)] [.int x.2.2.2, .int x.2.2.1, .int x.2.1, .ref b1, .ref b0] (xw [(5, b0, f0, s0), (0, b1, f1, s1), (12, b2, f2, s2), (7, b3, f3, s3)] h) r h') 36 [(0, .ref b0), (1, .ref b1), (2, .ref (b3 + 16)), (3, .int v3), (4, .int v4)] [] (xw [(5, b0, f0, s0), (0, b1, f1, s1), (12, b2, f2, s2), (7, b3, f3, s3)] h) (X5_numberOfGh_j36 v3 v4 s0 s1 s2 s3) := by
  unfold X5_numberOfGh_j36
  refine s_aload_n (pc := 36) 0 dX5_numberOf_36 rfl ?_
  refine s_aload_n (pc := 37) 1 dX5_numberOf_37 rfl ?_
  refine s_iload (pc := 38) 4 dX5_numberOf_38 rfl ?_
  refine s_iconst (v := (-1)) (pc := 40) dX5_numberOf_40 (by decide) ?_
  refine s_iconst (v := (-1)) (pc := 41) dX5_numberOf_41 (by decide) ?_
  refine s_sub [0, 2, 3] rfl ?_
  exact s_ev (fun _ _ q => q)
def pX5_numberOfGh (s0 : RS) (s1 : RS) (s2 : RS) (s3 : RS) (a2 : Int32) : Option (Int32 × Int32 × Int32 × Int32) :=
  (a_loop (fun (q : Int32 × Int32) => X5_numberOfGh_b6 a2 q.1 q.2 s0 s1 s2 s3) FU ((0 : Int32), (0 : Int32))).bind fun (t3 : Int32) =>
    X5_numberOfGh_j36 a2 t3 s0 s1 s2 s3
theorem pX5_numberOfGh_w (ho : xok [(5, b0), (0, b1), (12, b2), (7, b3)] h.2.1) (hq_0_5 : f0 5 = some b2) (s0 : RS) (s1 : RS) (s2 : RS) (s3 : RS) (a2 : Int32) : aS l 63 MX5_numberOf n0 S0 (fun (x : Int32 × Int32 × Int32 × Int32) r h' => aEv l 63 MX5_numberOf n0 S0 42 [(0, .ref b0), (2, .ref (b3 + 16)), (3, .int x.1)] [.int x.2.2.2, .int x.2.2.1, .int x.2.1, .ref b1, .ref b0] (xw [(5, b0, f0, s0), (0, b1, f1, s1), (12, b2, f2, s2), (7, b3, f3, s3)] h) r h') 0 [(0, .ref b0), (1, .ref b1), (2, .ref (b3 + 16)), (3, .int a2)] [] (xw [(5, b0, f0, s0), (0, b1, f1, s1), (12, b2, f2, s2), (7, b3, f3, s3)] h) (pX5_numberOfGh s0 s1 s2 s3 a2) := by
  unfold pX5_numberOfGh
  refine s_iconst (v := 0) (pc := 0) dX5_numberOf_0 (by decide) ?_
  refine s_istore (lv' := [(4, .int 0), (0, .ref b0), (1, .ref b1), (2, .ref (b3 + 16)), (3, .int a2)]) (pc := 1) dX5_numberOf_1 (by decide) rfl ?_
  refine s_iconst (v := 0) (pc := 3) dX5_numberOf_3 (by decide) ?_
  refine s_istore (lv' := [(5, .int 0), (4, .int 0), (0, .ref b0), (1, .ref b1), (2, .ref (b3 + 16)), (3, .int a2)]) (pc := 4) dX5_numberOf_4 (by decide) rfl ?_
  refine s_bind (Ψ := X5_numberOfGh_x6 l n0 S0 h b0 b1 b2 b3 f0 f1 f2 f3 a2 s0 s1 s2 s3) ?_ ?_
  · refine s_sub [2, 3, 4, 5, 1, 0] rfl ?_
    exact s_loop (lvf := fun (q : Int32 × Int32) => [(0, .ref b0), (1, .ref b1), (2, .ref (b3 + 16)), (3, .int a2), (4, .int q.1), (5, .int q.2)]) (stf := fun _ => []) (hf := fun (q : Int32 × Int32) => xw [(5, b0, f0, s0), (0, b1, f1, s1), (12, b2, f2, s2), (7, b3, f3, s3)] h) (fun q => X5_numberOfGh_b6_ok ho hq_0_5 a2 q.1 q.2 s0 s1 s2 s3) FU ((0 : Int32), (0 : Int32))
  · intro t3 z r h' hz hr
    refine (?_ : aS l 63 MX5_numberOf n0 S0 (fun (x : Int32 × Int32 × Int32 × Int32) r h' => aEv l 63 MX5_numberOf n0 S0 42 [(0, .ref b0), (2, .ref (b3 + 16)), (3, .int x.1)] [.int x.2.2.2, .int x.2.2.1, .int x.2.1, .ref b1, .ref b0] (xw [(5, b0, f0, s0), (0, b1, f1, s1), (12, b2, f2, s2), (7, b3, f3, s3)] h) r h') 36 [(0, .ref b0), (1, .ref b1), (2, .ref (b3 + 16)), (3, .int a2), (4, .int t3)] [] (xw [(5, b0, f0, s0), (0, b1, f1, s1), (12, b2, f2, s2), (7, b3, f3, s3)] h) _) z hz r h' hr
    exact X5_numberOfGh_j36_ok ho hq_0_5 a2 t3 s0 s1 s2 s3
end
section
variable {l : Launch} {n0 S0 : Nat} {h : aH} {b0 b1 b2 b3 : Nat} {f0 f1 f2 f3 : Nat → Option Nat}
def X5_numberOfGt_x55 (l : Launch) (n0 S0 : Nat) (h : aH) (b0 : Nat) (b1 : Nat) (b2 : Nat) (b3 : Nat) (f0 : Nat → Option Nat) (f1 : Nat → Option Nat) (f2 : Nat → Option Nat) (f3 : Nat → Option Nat) (v3 : Int32) (s0 : RS) (s1 : RS) (s3 : RS) : (Int64 × RS) → Option Value → aH → Prop := fun (x : Int64 × RS) r h' => aEv l 63 MX5_numberOf n0 S0 148 [(6, .long x.1)] [] (xw [(5, b0, f0, s0), (0, b1, f1, s1), (12, b2, f2, x.2), (7, b3, f3, s3)] h) r h'
def X5_numberOfGt_x71 (l : Launch) (n0 S0 : Nat) (h : aH) (b0 : Nat) (b1 : Nat) (b2 : Nat) (b3 : Nat) (f0 : Nat → Option Nat) (f1 : Nat → Option Nat) (f2 : Nat → Option Nat) (f3 : Nat → Option Nat) (v3 : Int32) (v5 : Int32) (v8 : Int32) (s0 : RS) (s1 : RS) (s3 : RS) : (Int64 × RS) → Option Value → aH → Prop := fun (x : Int64 × RS) r h' => aEv l 63 MX5_numberOf n0 S0 131 [(0, .ref b0), (2, .ref (b3 + 16)), (3, .int v3), (5, .int v5), (6, .long x.1), (8, .int v8)] [] (xw [(5, b0, f0, s0), (0, b1, f1, s1), (12, b2, f2, x.2), (7, b3, f3, s3)] h) r h'
def X5_numberOfGt_j125 (v3 : Int32) (v5 : Int32) (v6 : Int64) (v8 : Int32) (v9 : Int32) (s0 : RS) (s1 : RS) (s2 : RS) (s3 : RS) : Option ((Int64 × Int32 × RS) ⊕ (Int64 × RS)) :=
  thn (v9 + 1) fun x3 =>
  some (.inl (v6, x3, s2))
theorem X5_numberOfGt_j125_ok (ho : xok [(5, b0), (0, b1), (12, b2), (7, b3)] h.2.1) (hq_0_0 : f0 0 = some b1) (hq_0_5 : f0 5 = some b2) (v3 : Int32) (v5 : Int32) (v6 : Int64) (v8 : Int32) (v9 : Int32) (s0 : RS) (s1 : RS) (s2 : RS) (s3 : RS) : aS l 63 MX5_numberOf n0 S0 (a_LΦ (X5_numberOfGt_x71 l n0 S0 h b0 b1 b2 b3 f0 f1 f2 f3 v3 v5 v8 s0 s1 s3) l 63 MX5_numberOf n0 S0 71 (fun (q : Int64 × Int32 × RS) => [(0, .ref b0), (2, .ref (b3 + 16)), (3, .int v3), (5, .int v5), (6, .long q.1), (8, .int v8), (9, .int q.2.1)]) (fun _ => []) (fun (q : Int64 × Int32 × RS) => xw [(5, b0, f0, s0), (0, b1, f1, s1), (12, b2, f2, q.2.2), (7, b3, f3, s3)] h)) 125 [(0, .ref b0), (2, .ref (b3 + 16)), (3, .int v3), (5, .int v5), (6, .long v6), (8, .int v8), (9, .int v9)] [] (xw [(5, b0, f0, s0), (0, b1, f1, s1), (12, b2, f2, s2), (7, b3, f3, s3)] h) (X5_numberOfGt_j125 v3 v5 v6 v8 v9 s0 s1 s2 s3) := by
  unfold X5_numberOfGt_j125
  refine s_iincT (pc := 125) 6 (lv' := fun x3 => [(9, .int x3), (0, .ref b0), (2, .ref (b3 + 16)), (3, .int v3), (5, .int v5), (6, .long v6), (8, .int v8)]) dX5_numberOf_125 rfl rfl (by decide) (fun _ => rfl) (fun x3 => ?_)
  refine s_goto (tgt := 71) (pc := 128) dX5_numberOf_128 (by decide) ?_
  refine s_sub [1, 2, 3, 4, 5, 6, 0] rfl ?_
  exact s_ev (fun _ _ q => q)
def X5_numberOfGt_b71 (v3 : Int32) (v5 : Int32) (v8 : Int32) (v6 : Int64) (v9 : Int32) (s0 : RS) (s1 : RS) (s2 : RS) (s3 : RS) : Option ((Int64 × Int32 × RS) ⊕ (Int64 × RS)) :=
  g_in v8 16 (
  if (s3.2.2.1 3 v8.toNatClampNeg) ≤ v9 then
    some (.inr (v6, s2))
  else
    (pX0_isIn ((s0.1 1) &&& (v5 ^^^ (-1 : Int32))) v9).bind fun x2 =>
    if x2 = true then
      (pX5_isReady s0 s1 v9 v5).bind fun x4 =>
      if x4 = true then
        (pX5_waysBehind 20 s0 s1 s2 (v5 ||| ((1 : Int32) <<< (v9 &&& 31))) (0 : Int32)).bind fun x5 =>
        thn (v6 + x5.1) fun x6 =>
        X5_numberOfGt_j125 v3 v5 x6 v8 v9 s0 s1 x5.2 s3
      else
        X5_numberOfGt_j125 v3 v5 v6 v8 v9 s0 s1 s2 s3
    else
      X5_numberOfGt_j125 v3 v5 v6 v8 v9 s0 s1 s2 s3)
theorem X5_numberOfGt_b71_ok (ho : xok [(5, b0), (0, b1), (12, b2), (7, b3)] h.2.1) (hq_0_0 : f0 0 = some b1) (hq_0_5 : f0 5 = some b2) (v3 : Int32) (v5 : Int32) (v8 : Int32) (v6 : Int64) (v9 : Int32) (s0 : RS) (s1 : RS) (s2 : RS) (s3 : RS) : aS l 63 MX5_numberOf n0 S0 (a_LΦ (X5_numberOfGt_x71 l n0 S0 h b0 b1 b2 b3 f0 f1 f2 f3 v3 v5 v8 s0 s1 s3) l 63 MX5_numberOf n0 S0 71 (fun (q : Int64 × Int32 × RS) => [(0, .ref b0), (2, .ref (b3 + 16)), (3, .int v3), (5, .int v5), (6, .long q.1), (8, .int v8), (9, .int q.2.1)]) (fun _ => []) (fun (q : Int64 × Int32 × RS) => xw [(5, b0, f0, s0), (0, b1, f1, s1), (12, b2, f2, q.2.2), (7, b3, f3, s3)] h)) 71 [(0, .ref b0), (2, .ref (b3 + 16)), (3, .int v3), (5, .int v5), (6, .long v6), (8, .int v8), (9, .int v9)] [] (xw [(5, b0, f0, s0), (0, b1, f1, s1), (12, b2, f2, s2), (7, b3, f3, s3)] h) (X5_numberOfGt_b71 v3 v5 v8 v6 v9 s0 s1 s2 s3) := by
  unfold X5_numberOfGt_b71
  refine s_iload (pc := 71) 6 dX5_numberOf_71 rfl ?_
  refine s_aload_n (pc := 73) 1 dX5_numberOf_73 rfl ?_
  refine s_iload (pc := 74) 5 dX5_numberOf_74 rfl ?_
  refine xl_7_3 3 ho rfl (pc := 76) dX5_numberOf_76 ?_
  refine s_icmp_ge (tgt := 131) (pc := 77) dX5_numberOf_77 (by decide) (fun _ => ?_) (fun _ => ?_)
  · refine s_sub [0, 1, 2, 3, 4, 5] rfl ?_
    exact s_ev (fun _ _ q => q)
  · refine s_aload_n (pc := 80) 0 dX5_numberOf_80 rfl ?_
    refine xg_X5_18 0 ho rfl (pc := 81) dX5_numberOf_81 rfl ?_
    refine s_iload (pc := 84) 3 dX5_numberOf_84 rfl ?_
    refine s_iconst (v := (-1)) (pc := 86) dX5_numberOf_86 (by decide) ?_
    refine s_ixor (pc := 87) dX5_numberOf_87 ?_
    refine s_iand (pc := 88) dX5_numberOf_88 ?_
    refine s_iload (pc := 89) 6 dX5_numberOf_89 rfl ?_
    refine s_callS (M := MX5_numberOf) (As := [.int ((s0.1 1) &&& (v5 ^^^ (-1 : Int32))), .int v9]) (st := []) (Ψ := fun (x : Bool) => (some (.int (b2i x)), xw [(5, b0, f0, s0), (0, b1, f1, s1), (12, b2, f2, s2), (7, b3, f3, s3)] h)) cs_X5_54 (by decide) (pc := 91) dX5_numberOf_91 rfl (Nat.le_of_ble_eq_true rfl) (fun x hx => pX0_isIn_ok ((s0.1 1) &&& (v5 ^^^ (-1 : Int32))) v9 x hx) rfl (fun x2 _ => ?_)
    refine s_if_eqB (tgt := 125) (pc := 94) dX5_numberOf_94 (by decide) (fun _ => ?_) (fun _ => ?_)
    · refine s_aload_n (pc := 97) 0 dX5_numberOf_97 rfl ?_
      refine s_iload (pc := 98) 6 dX5_numberOf_98 rfl ?_
      refine s_iload (pc := 100) 3 dX5_numberOf_100 rfl ?_
      refine x_callV (M := MX5_numberOf) (L := [(5, b0, f0, s0), (0, b1, f1, s1), (12, b2, f2, s2), (7, b3, f3, s3)]) (h := h) (j := 0) (As := [.int v9, .int v5]) (st := []) (A := fun (x : Bool) => some (.int (b2i x))) (Lc := [(5, b0, f0, s0), (0, b1, f1, s1)]) (Lr := fun (x : Bool) => [(5, b0, f0, s0), (0, b1, f1, s1)]) (L2 := fun (x : Bool) => [(5, b0, f0, s0), (0, b1, f1, s1), (12, b2, f2, s2), (7, b3, f3, s3)]) cv_X5_80 (by decide) (pc := 102) dX5_numberOf_102 ho rfl xc0_5 rfl rfl (Nat.le_of_ble_eq_true rfl) (xovs (L := [(5, b0, f0, s0), (0, b1, f1, s1), (12, b2, f2, s2), (7, b3, f3, s3)]) (h := h) [(0, (5, b0, f0, s0)), (1, (0, b1, f1, s1))] ho ⟨rfl, rfl, trivial⟩).1 (fun x => (xovs (L := [(5, b0, f0, s0), (0, b1, f1, s1), (12, b2, f2, s2), (7, b3, f3, s3)]) (h := h) [(0, (5, b0, f0, s0)), (1, (0, b1, f1, s1))] ho ⟨rfl, rfl, trivial⟩).1) (fun x hx => pX5_isReady_ok (h := xw [(5, b0, f0, s0), (0, b1, f1, s1), (12, b2, f2, s2), (7, b3, f3, s3)] h) (f0 := f0) (f1 := f1) (xok_sub ho [0, 1] rfl (by decide)) hq_0_0 s0 s1 v9 v5 x hx) rfl (fun x4 _ => ?_)
      refine s_if_eqB (tgt := 125) (pc := 105) dX5_numberOf_105 (by decide) (fun _ => ?_) (fun _ => ?_)
      · refine s_lload (pc := 108) 4 dX5_numberOf_108 rfl ?_
        refine s_aload_n (pc := 110) 0 dX5_numberOf_110 rfl ?_
        refine s_iload (pc := 111) 3 dX5_numberOf_111 rfl ?_
        refine s_iconst (v := 1) (pc := 113) dX5_numberOf_113 (by decide) ?_
        refine s_iload (pc := 114) 6 dX5_numberOf_114 rfl ?_
        refine s_ishl (pc := 116) dX5_numberOf_116 ?_
        refine s_ior (pc := 117) dX5_numberOf_117 ?_
        refine s_iconst (v := 0) (pc := 118) dX5_numberOf_118 (by decide) ?_
        refine x_callV (M := MX5_numberOf) (L := [(5, b0, f0, s0), (0, b1, f1, s1), (12, b2, f2, s2), (7, b3, f3, s3)]) (h := h) (j := 0) (As := [.int (v5 ||| ((1 : Int32) <<< (v9 &&& 31))), .int 0]) (st := [.long v6]) (A := fun (x : Int64 × RS) => some (.long x.1)) (Lc := [(5, b0, f0, s0), (0, b1, f1, s1), (12, b2, f2, s2)]) (Lr := fun (x : Int64 × RS) => [(5, b0, f0, s0), (0, b1, f1, s1), (12, b2, f2, x.2)]) (L2 := fun (x : Int64 × RS) => [(5, b0, f0, s0), (0, b1, f1, s1), (12, b2, f2, x.2), (7, b3, f3, s3)]) cv_X5_43 (by decide) (pc := 119) dX5_numberOf_119 ho rfl xc0_5 rfl rfl (Nat.le_of_ble_eq_true rfl) (xovs (L := [(5, b0, f0, s0), (0, b1, f1, s1), (12, b2, f2, s2), (7, b3, f3, s3)]) (h := h) [(0, (5, b0, f0, s0)), (1, (0, b1, f1, s1)), (2, (12, b2, f2, s2))] ho ⟨rfl, rfl, rfl, trivial⟩).1 (fun x => (xovs (L := [(5, b0, f0, s0), (0, b1, f1, s1), (12, b2, f2, s2), (7, b3, f3, s3)]) (h := h) [(0, (5, b0, f0, s0)), (1, (0, b1, f1, s1)), (2, (12, b2, f2, x.2))] ho ⟨rfl, rfl, rfl, trivial⟩).1) (fun x hx => pX5_waysBehind_ok (h := xw [(5, b0, f0, s0), (0, b1, f1, s1), (12, b2, f2, s2), (7, b3, f3, s3)] h) (f0 := f0) (f1 := f1) (f2 := f2) (xok_sub ho [0, 1, 2] rfl (by decide)) hq_0_0 hq_0_5 20 s0 s1 s2 (v5 ||| ((1 : Int32) <<< (v9 &&& 31))) (0 : Int32) x hx) rfl (fun x5 _ => ?_)
        refine s_ladd (pc := 122) dX5_numberOf_122 ?_
        refine s_lstoreT (lv' := fun x6 => [(6, .long x6), (0, .ref b0), (2, .ref (b3 + 16)), (3, .int v3), (5, .int v5), (8, .int v8), (9, .int v9)]) (pc := 123) dX5_numberOf_123 (by decide) (fun _ => rfl) (fun x6 => ?_)
        refine s_sub [1, 2, 3, 4, 0, 5, 6] rfl ?_
        exact X5_numberOfGt_j125_ok ho hq_0_0 hq_0_5 v3 v5 x6 v8 v9 s0 s1 x5.2 s3
      · exact X5_numberOfGt_j125_ok ho hq_0_0 hq_0_5 v3 v5 v6 v8 v9 s0 s1 s2 s3
    · exact X5_numberOfGt_j125_ok ho hq_0_0 hq_0_5 v3 v5 v6 v8 v9 s0 s1 s2 s3
def X5_numberOfGt_b55 (v3 : Int32) (v5 : Int32) (v6 : Int64) (v8 : Int32) (s0 : RS) (s1 : RS) (s2 : RS) (s3 : RS) : Option ((Int32 × Int64 × Int32 × RS) ⊕ (Int64 × RS)) :=
  if v3 ≤ v8 then
    some (.inr (v6, s2))
  else
    if (16 : Int32) ≤ v8 then
      some (.inr (v6, s2))
    else
      (a_loop (fun (q : Int64 × Int32 × RS) => X5_numberOfGt_b71 v3 v5 v8 q.1 q.2.1 s0 s1 q.2.2 s3) FU (v6, (0 : Int32), s2)).bind fun (t7 : Int64 × RS) =>
        g_in v8 16 (
        thn (v5 ||| ((1 : Int32) <<< ((s3.2.2.1 3 v8.toNatClampNeg) &&& 31))) fun x8 =>
        thn (v8 + 1) fun x9 =>
        some (.inl (x8, t7.1, x9, t7.2)))
theorem X5_numberOfGt_b55_ok (ho : xok [(5, b0), (0, b1), (12, b2), (7, b3)] h.2.1) (hq_0_0 : f0 0 = some b1) (hq_0_5 : f0 5 = some b2) (v3 : Int32) (v5 : Int32) (v6 : Int64) (v8 : Int32) (s0 : RS) (s1 : RS) (s2 : RS) (s3 : RS) : aS l 63 MX5_numberOf n0 S0 (a_LΦ (X5_numberOfGt_x55 l n0 S0 h b0 b1 b2 b3 f0 f1 f2 f3 v3 s0 s1 s3) l 63 MX5_numberOf n0 S0 55 (fun (q : Int32 × Int64 × Int32 × RS) => [(0, .ref b0), (2, .ref (b3 + 16)), (3, .int v3), (5, .int q.1), (6, .long q.2.1), (8, .int q.2.2.1)]) (fun _ => []) (fun (q : Int32 × Int64 × Int32 × RS) => xw [(5, b0, f0, s0), (0, b1, f1, s1), (12, b2, f2, q.2.2.2), (7, b3, f3, s3)] h)) 55 [(0, .ref b0), (2, .ref (b3 + 16)), (3, .int v3), (5, .int v5), (6, .long v6), (8, .int v8)] [] (xw [(5, b0, f0, s0), (0, b1, f1, s1), (12, b2, f2, s2), (7, b3, f3, s3)] h) (X5_numberOfGt_b55 v3 v5 v6 v8 s0 s1 s2 s3) := by
  unfold X5_numberOfGt_b55
  refine s_iload (pc := 55) 5 dX5_numberOf_55 rfl ?_
  refine s_iload_n (pc := 57) 2 dX5_numberOf_57 rfl ?_
  refine s_icmp_ge (tgt := 148) (pc := 58) dX5_numberOf_58 (by decide) (fun _ => ?_) (fun _ => ?_)
  · refine s_sub [4] rfl ?_
    exact s_ev (fun _ _ q => q)
  · refine s_iload (pc := 61) 5 dX5_numberOf_61 rfl ?_
    refine s_aload_n (pc := 63) 1 dX5_numberOf_63 rfl ?_
    refine xn_7_3 3 ho rfl (pc := 64) dX5_numberOf_64 ?_
    refine s_icmp_ge (tgt := 148) (pc := 65) dX5_numberOf_65 (by decide) (fun _ => ?_) (fun _ => ?_)
    · refine s_sub [4] rfl ?_
      exact s_ev (fun _ _ q => q)
    · refine s_iconst (v := 0) (pc := 68) dX5_numberOf_68 (by decide) ?_
      refine s_istore (lv' := [(9, .int 0), (0, .ref b0), (2, .ref (b3 + 16)), (3, .int v3), (5, .int v5), (6, .long v6), (8, .int v8)]) (pc := 69) dX5_numberOf_69 (by decide) rfl ?_
      refine s_bind (Ψ := X5_numberOfGt_x71 l n0 S0 h b0 b1 b2 b3 f0 f1 f2 f3 v3 v5 v8 s0 s1 s3) ?_ ?_
      · refine s_sub [1, 2, 3, 4, 5, 6, 0] rfl ?_
        exact s_loop (lvf := fun (q : Int64 × Int32 × RS) => [(0, .ref b0), (2, .ref (b3 + 16)), (3, .int v3), (5, .int v5), (6, .long q.1), (8, .int v8), (9, .int q.2.1)]) (stf := fun _ => []) (hf := fun (q : Int64 × Int32 × RS) => xw [(5, b0, f0, s0), (0, b1, f1, s1), (12, b2, f2, q.2.2), (7, b3, f3, s3)] h) (fun q => X5_numberOfGt_b71_ok ho hq_0_0 hq_0_5 v3 v5 v8 q.1 q.2.1 s0 s1 q.2.2 s3) FU (v6, (0 : Int32), s2)
      · intro t7 z r h' hz hr
        refine (?_ : aS l 63 MX5_numberOf n0 S0 (a_LΦ (X5_numberOfGt_x55 l n0 S0 h b0 b1 b2 b3 f0 f1 f2 f3 v3 s0 s1 s3) l 63 MX5_numberOf n0 S0 55 (fun (q : Int32 × Int64 × Int32 × RS) => [(0, .ref b0), (2, .ref (b3 + 16)), (3, .int v3), (5, .int q.1), (6, .long q.2.1), (8, .int q.2.2.1)]) (fun _ => []) (fun (q : Int32 × Int64 × Int32 × RS) => xw [(5, b0, f0, s0), (0, b1, f1, s1), (12, b2, f2, q.2.2.2), (7, b3, f3, s3)] h)) 131 [(0, .ref b0), (2, .ref (b3 + 16)), (3, .int v3), (5, .int v5), (6, .long t7.1), (8, .int v8)] [] (xw [(5, b0, f0, s0), (0, b1, f1, s1), (12, b2, f2, t7.2), (7, b3, f3, s3)] h) _) z hz r h' hr
        refine s_iload (pc := 131) 3 dX5_numberOf_131 rfl ?_
        refine s_iconst (v := 1) (pc := 133) dX5_numberOf_133 (by decide) ?_
        refine s_aload_n (pc := 134) 1 dX5_numberOf_134 rfl ?_
        refine s_iload (pc := 135) 5 dX5_numberOf_135 rfl ?_
        refine xl_7_3 3 ho rfl (pc := 137) dX5_numberOf_137 ?_
        refine s_ishl (pc := 138) dX5_numberOf_138 ?_
        refine s_ior (pc := 139) dX5_numberOf_139 ?_
        refine s_istoreT (lv' := fun x8 => [(5, .int x8), (0, .ref b0), (2, .ref (b3 + 16)), (3, .int v3), (6, .long t7.1), (8, .int v8)]) (pc := 140) dX5_numberOf_140 (by decide) (fun _ => rfl) (fun x8 => ?_)
        refine s_iincT (pc := 142) 5 (lv' := fun x9 => [(8, .int x9), (5, .int x8), (0, .ref b0), (2, .ref (b3 + 16)), (3, .int v3), (6, .long t7.1)]) dX5_numberOf_142 rfl rfl (by decide) (fun _ => rfl) (fun x9 => ?_)
        refine s_goto (tgt := 55) (pc := 145) dX5_numberOf_145 (by decide) ?_
        refine s_sub [2, 3, 4, 1, 5, 0] rfl ?_
        exact s_ev (fun _ _ q => q)
def pX5_numberOfGt (s0 : RS) (s1 : RS) (s2 : RS) (s3 : RS) (v3 : Int32) (k0 : Int64) : Option (Int64 × RS) :=
  thn (0 : Int64) fun x1 =>
  (a_loop (fun (q : Int32 × Int64 × Int32 × RS) => X5_numberOfGt_b55 v3 q.1 q.2.1 q.2.2.1 s0 s1 q.2.2.2 s3) FU ((0 : Int32), x1, (0 : Int32), s2)).bind fun (t10 : Int64 × RS) =>
    some (t10.1, t10.2)
theorem pX5_numberOfGt_w (ho : xok [(5, b0), (0, b1), (12, b2), (7, b3)] h.2.1) (hq_0_0 : f0 0 = some b1) (hq_0_5 : f0 5 = some b2) (s0 : RS) (s1 : RS) (s2 : RS) (s3 : RS) (v3 : Int32) (k0 : Int64) : aS l 63 MX5_numberOf n0 S0 (oΦ (fun (x : Int64 × RS) => ((some (.long x.1)), xw [(5, b0, f0, s0), (0, b1, f1, s1), (12, b2, f2, x.2), (7, b3, f3, s3)] h))) 45 [(0, .ref b0), (2, .ref (b3 + 16)), (3, .int v3)] [.long k0] (xw [(5, b0, f0, s0), (0, b1, f1, s1), (12, b2, f2, s2), (7, b3, f3, s3)] h) (pX5_numberOfGt s0 s1 s2 s3 v3 k0) := by
  unfold pX5_numberOfGt
  refine s_pop2_2 (pc := 45) dX5_numberOf_45 rfl ?_
  refine s_iconst (v := 0) (pc := 46) dX5_numberOf_46 (by decide) ?_
  refine s_istore (lv' := [(5, .int 0), (0, .ref b0), (2, .ref (b3 + 16)), (3, .int v3)]) (pc := 47) dX5_numberOf_47 (by decide) rfl ?_
  refine s_lconst (v := 0) (pc := 49) dX5_numberOf_49 (by decide) ?_
  refine s_lstoreT (lv' := fun x1 => [(6, .long x1), (5, .int 0), (0, .ref b0), (2, .ref (b3 + 16)), (3, .int v3)]) (pc := 50) dX5_numberOf_50 (by decide) (fun _ => rfl) (fun x1 => ?_)
  refine s_iconst (v := 0) (pc := 52) dX5_numberOf_52 (by decide) ?_
  refine s_istore (lv' := [(8, .int 0), (6, .long x1), (5, .int 0), (0, .ref b0), (2, .ref (b3 + 16)), (3, .int v3)]) (pc := 53) dX5_numberOf_53 (by decide) rfl ?_
  refine s_bind (Ψ := X5_numberOfGt_x55 l n0 S0 h b0 b1 b2 b3 f0 f1 f2 f3 v3 s0 s1 s3) ?_ ?_
  · refine s_sub [3, 4, 5, 2, 1, 0] rfl ?_
    exact s_loop (lvf := fun (q : Int32 × Int64 × Int32 × RS) => [(0, .ref b0), (2, .ref (b3 + 16)), (3, .int v3), (5, .int q.1), (6, .long q.2.1), (8, .int q.2.2.1)]) (stf := fun _ => []) (hf := fun (q : Int32 × Int64 × Int32 × RS) => xw [(5, b0, f0, s0), (0, b1, f1, s1), (12, b2, f2, q.2.2.2), (7, b3, f3, s3)] h) (fun q => X5_numberOfGt_b55_ok ho hq_0_0 hq_0_5 v3 q.1 q.2.1 q.2.2.1 s0 s1 q.2.2.2 s3) FU ((0 : Int32), x1, (0 : Int32), s2)
  · intro t10 z r h' hz hr
    refine (?_ : aS l 63 MX5_numberOf n0 S0 (oΦ (fun (x : Int64 × RS) => ((some (.long x.1)), xw [(5, b0, f0, s0), (0, b1, f1, s1), (12, b2, f2, x.2), (7, b3, f3, s3)] h))) 148 [(6, .long t10.1)] [] (xw [(5, b0, f0, s0), (0, b1, f1, s1), (12, b2, f2, t10.2), (7, b3, f3, s3)] h) _) z hz r h' hr
    refine s_lload (pc := 148) 0 dX5_numberOf_148 rfl ?_
    exact s_lret (pc := 150) dX5_numberOf_150 rfl (fun _ _ q => q)
end
section
variable {l : Launch} {n0 S0 : Nat} {h : aH} {b0 b2 b4 : Nat} {f0 f1 f2 f3 f4 : Nat → Option Nat}
abbrev MX11_orders : aM := (cX11_orders, RX11, 3, (some .long), false)
def pX11_ordersF (s0 : RS) (s1 : RS) (s2 : RS) (s3 : RS) (s4 : RS) (b0 : Nat) (b2 : Nat) (b4 : Nat) (f3 : Nat → Option Nat) (a0 : Int32) : Option (Int64 × RS × RS × RS × (Nat → Option Nat)) :=
  (pX11_faultOfSet s0 s1 s2 a0).bind fun x1 =>
  if x1 = 0 then
    (pX5_countOrdersF s3 s2 s4 a0).bind fun x2 =>
    (pX11_tellLong s0 x2.1).bind fun x3 =>
    some (x3.1, x3.2, x2.2.1, x2.2.2, (va_up f3 0 (some b2)))
  else
    (pX11_refuse s0 x1).bind fun x4 =>
    some (x4.1.toInt64, x4.2, s3, s4, f3)
theorem pX11_ordersF_w (ho : xok [(11, b0), (7, (b0 + 8)), (0, b2), (5, (b0 + 34)), (12, b4)] h.2.1) (hq_1_0 : f1 0 = some b2) (hq_3_5 : f3 5 = some b4) (s0 : RS) (s1 : RS) (s2 : RS) (s3 : RS) (s4 : RS) (a0 : Int32) : aS l 63 MX11_orders n0 S0 (oΦ (fun (x : Int64 × RS × RS × RS × (Nat → Option Nat)) => ((some (.long x.1)), xw [(11, b0, f0, x.2.1), (7, (b0 + 8), f1, s1), (0, b2, f2, s2), (5, (b0 + 34), x.2.2.2.2, x.2.2.1), (12, b4, f4, x.2.2.2.1)] h))) 0 [(0, .ref b0), (1, .int a0)] [] (xw [(11, b0, f0, s0), (7, (b0 + 8), f1, s1), (0, b2, f2, s2), (5, (b0 + 34), f3, s3), (12, b4, f4, s4)] h) (pX11_ordersF s0 s1 s2 s3 s4 b0 b2 b4 f3 a0) := by
  unfold pX11_ordersF
  refine s_aload_n (pc := 0) 0 dX11_orders_0 rfl ?_
  refine s_iload_n (pc := 1) 1 dX11_orders_1 rfl ?_
  refine x_callV (M := MX11_orders) (L := [(11, b0, f0, s0), (7, (b0 + 8), f1, s1), (0, b2, f2, s2), (5, (b0 + 34), f3, s3), (12, b4, f4, s4)]) (h := h) (j := 0) (As := [.int a0]) (st := []) (A := fun (x : Int32) => some (.int x)) (Lc := [(11, b0, f0, s0), (7, (b0 + 8), f1, s1), (0, b2, f2, s2)]) (Lr := fun (x : Int32) => [(11, b0, f0, s0), (7, (b0 + 8), f1, s1), (0, b2, f2, s2)]) (L2 := fun (x : Int32) => [(11, b0, f0, s0), (7, (b0 + 8), f1, s1), (0, b2, f2, s2), (5, (b0 + 34), f3, s3), (12, b4, f4, s4)]) cv_X11_262 (by decide) (pc := 2) dX11_orders_2 ho rfl xc0_11 rfl rfl (Nat.le_of_ble_eq_true rfl) (xovs (L := [(11, b0, f0, s0), (7, (b0 + 8), f1, s1), (0, b2, f2, s2), (5, (b0 + 34), f3, s3), (12, b4, f4, s4)]) (h := h) [(0, (11, b0, f0, s0)), (1, (7, (b0 + 8), f1, s1)), (2, (0, b2, f2, s2))] ho ⟨rfl, rfl, rfl, trivial⟩).1 (fun x => (xovs (L := [(11, b0, f0, s0), (7, (b0 + 8), f1, s1), (0, b2, f2, s2), (5, (b0 + 34), f3, s3), (12, b4, f4, s4)]) (h := h) [(0, (11, b0, f0, s0)), (1, (7, (b0 + 8), f1, s1)), (2, (0, b2, f2, s2))] ho ⟨rfl, rfl, rfl, trivial⟩).1) (fun x hx => pX11_faultOfSet_ok (h := xw [(11, b0, f0, s0), (7, (b0 + 8), f1, s1), (0, b2, f2, s2), (5, (b0 + 34), f3, s3), (12, b4, f4, s4)] h) (f0 := f0) (f1 := f1) (f2 := f2) (xok_sub ho [0, 1, 2] rfl (by decide)) hq_1_0 s0 s1 s2 a0 x hx) rfl (fun x1 _ => ?_)
  refine s_istore_n (lv' := [(2, .int x1), (0, .ref b0), (1, .int a0)]) (pc := 5) dX11_orders_5 (by decide) rfl ?_
  refine s_iload_n (pc := 6) 0 dX11_orders_6 rfl ?_
  refine s_if_eq (tgt := 17) (pc := 7) dX11_orders_7 (by decide) (fun _ => ?_) (fun _ => ?_)
  · refine s_aload_n (pc := 17) 1 dX11_orders_17 rfl ?_
    refine s_aload_n (pc := 18) 1 dX11_orders_18 rfl ?_
    refine xg_X11_46 0 ho rfl (pc := 19) dX11_orders_19 rfl ?_
    refine s_aload_n (pc := 22) 1 dX11_orders_22 rfl ?_
    refine xg_X11_25 0 ho rfl (pc := 23) dX11_orders_23 rfl ?_
    refine xg_X11_174 1 ho rfl (pc := 26) dX11_orders_26 rfl hq_1_0 ?_
    refine s_iload_n (pc := 29) 2 dX11_orders_29 rfl ?_
    refine x_callV (M := MX11_orders) (L := [(11, b0, f0, s0), (7, (b0 + 8), f1, s1), (0, b2, f2, s2), (5, (b0 + 34), f3, s3), (12, b4, f4, s4)]) (h := h) (j := 3) (As := [.ref b2, .int a0]) (st := [.ref b0]) (A := fun (x : Int64 × RS × RS) => some (.long x.1)) (Lc := [(5, (b0 + 34), f3, s3), (0, b2, f2, s2), (12, b4, f4, s4)]) (Lr := fun (x : Int64 × RS × RS) => [(5, (b0 + 34), (va_up f3 0 (some b2)), x.2.1), (0, b2, f2, s2), (12, b4, f4, x.2.2)]) (L2 := fun (x : Int64 × RS × RS) => [(11, b0, f0, s0), (7, (b0 + 8), f1, s1), (0, b2, f2, s2), (5, (b0 + 34), (va_up f3 0 (some b2)), x.2.1), (12, b4, f4, x.2.2)]) cv_X11_321 (by decide) (pc := 30) dX11_orders_30 ho rfl xc0_5 rfl rfl (Nat.le_of_ble_eq_true rfl) (xovs (L := [(11, b0, f0, s0), (7, (b0 + 8), f1, s1), (0, b2, f2, s2), (5, (b0 + 34), f3, s3), (12, b4, f4, s4)]) (h := h) [(3, (5, (b0 + 34), f3, s3)), (2, (0, b2, f2, s2)), (4, (12, b4, f4, s4))] ho ⟨rfl, rfl, rfl, trivial⟩).1 (fun x => (xovs (L := [(11, b0, f0, s0), (7, (b0 + 8), f1, s1), (0, b2, f2, s2), (5, (b0 + 34), f3, s3), (12, b4, f4, s4)]) (h := h) [(3, (5, (b0 + 34), (va_up f3 0 (some b2)), x.2.1)), (2, (0, b2, f2, s2)), (4, (12, b4, f4, x.2.2))] ho ⟨rfl, rfl, rfl, trivial⟩).1) (fun x hx => pX5_countOrdersF_ok (h := xw [(11, b0, f0, s0), (7, (b0 + 8), f1, s1), (0, b2, f2, s2), (5, (b0 + 34), f3, s3), (12, b4, f4, s4)] h) (f0 := f3) (f1 := f2) (f2 := f4) (xok_sub ho [3, 2, 4] rfl (by decide)) hq_3_5 s3 s2 s4 a0 x hx) rfl (fun x2 _ => ?_)
    refine x_callV (M := MX11_orders) (L := [(11, b0, f0, s0), (7, (b0 + 8), f1, s1), (0, b2, f2, s2), (5, (b0 + 34), (va_up f3 0 (some b2)), x2.2.1), (12, b4, f4, x2.2.2)]) (h := h) (j := 0) (As := [.long x2.1]) (st := []) (A := fun (x : Int64 × RS) => some (.long x.1)) (Lc := [(11, b0, f0, s0)]) (Lr := fun (x : Int64 × RS) => [(11, b0, f0, x.2)]) (L2 := fun (x : Int64 × RS) => [(11, b0, f0, x.2), (7, (b0 + 8), f1, s1), (0, b2, f2, s2), (5, (b0 + 34), (va_up f3 0 (some b2)), x2.2.1), (12, b4, f4, x2.2.2)]) cv_X11_121 (by decide) (pc := 33) dX11_orders_33 ho rfl xc0_11 rfl rfl (Nat.le_of_ble_eq_true rfl) (xovs (L := [(11, b0, f0, s0), (7, (b0 + 8), f1, s1), (0, b2, f2, s2), (5, (b0 + 34), (va_up f3 0 (some b2)), x2.2.1), (12, b4, f4, x2.2.2)]) (h := h) [(0, (11, b0, f0, s0))] ho ⟨rfl, trivial⟩).1 (fun x => (xovs (L := [(11, b0, f0, s0), (7, (b0 + 8), f1, s1), (0, b2, f2, s2), (5, (b0 + 34), (va_up f3 0 (some b2)), x2.2.1), (12, b4, f4, x2.2.2)]) (h := h) [(0, (11, b0, f0, x.2))] ho ⟨rfl, trivial⟩).1) (fun x hx => pX11_tellLong_ok (h := xw [(11, b0, f0, s0), (7, (b0 + 8), f1, s1), (0, b2, f2, s2), (5, (b0 + 34), (va_up f3 0 (some b2)), x2.2.1), (12, b4, f4, x2.2.2)] h) (f0 := f0) (xok_sub ho [0] rfl (by decide)) s0 x2.1 x hx) rfl (fun x3 _ => ?_)
    exact s_lret (pc := 36) dX11_orders_36 rfl (fun _ _ q => q)
  · refine s_aload_n (pc := 10) 1 dX11_orders_10 rfl ?_
    refine s_iload_n (pc := 11) 0 dX11_orders_11 rfl ?_
    refine x_callV (M := MX11_orders) (L := [(11, b0, f0, s0), (7, (b0 + 8), f1, s1), (0, b2, f2, s2), (5, (b0 + 34), f3, s3), (12, b4, f4, s4)]) (h := h) (j := 0) (As := [.int x1]) (st := []) (A := fun (x : Int32 × RS) => some (.int x.1)) (Lc := [(11, b0, f0, s0)]) (Lr := fun (x : Int32 × RS) => [(11, b0, f0, x.2)]) (L2 := fun (x : Int32 × RS) => [(11, b0, f0, x.2), (7, (b0 + 8), f1, s1), (0, b2, f2, s2), (5, (b0 + 34), f3, s3), (12, b4, f4, s4)]) cv_X11_113 (by decide) (pc := 12) dX11_orders_12 ho rfl xc0_11 rfl rfl (Nat.le_of_ble_eq_true rfl) (xovs (L := [(11, b0, f0, s0), (7, (b0 + 8), f1, s1), (0, b2, f2, s2), (5, (b0 + 34), f3, s3), (12, b4, f4, s4)]) (h := h) [(0, (11, b0, f0, s0))] ho ⟨rfl, trivial⟩).1 (fun x => (xovs (L := [(11, b0, f0, s0), (7, (b0 + 8), f1, s1), (0, b2, f2, s2), (5, (b0 + 34), f3, s3), (12, b4, f4, s4)]) (h := h) [(0, (11, b0, f0, x.2))] ho ⟨rfl, trivial⟩).1) (fun x hx => pX11_refuse_ok (h := xw [(11, b0, f0, s0), (7, (b0 + 8), f1, s1), (0, b2, f2, s2), (5, (b0 + 34), f3, s3), (12, b4, f4, s4)] h) (f0 := f0) (xok_sub ho [0] rfl (by decide)) s0 x1 x hx) rfl (fun x4 _ => ?_)
    refine s_i2l (pc := 15) dX11_orders_15 ?_
    exact s_lret (pc := 16) dX11_orders_16 rfl (fun _ _ q => q)
theorem pX11_ordersF_ok (ho : xok [(11, b0), (7, (b0 + 8)), (0, b2), (5, (b0 + 34)), (12, b4)] h.2.1) (hq_1_0 : f1 0 = some b2) (hq_3_5 : f3 5 = some b4) (s0 : RS) (s1 : RS) (s2 : RS) (s3 : RS) (s4 : RS) (a0 : Int32) : ∀ x, pX11_ordersF s0 s1 s2 s3 s4 b0 b2 b4 f3 a0 = some x → aMet l 63 yX11_orders cX11_orders 3 (some .long) [.ref b0, .int a0] (xw [(11, b0, f0, s0), (7, (b0 + 8), f1, s1), (0, b2, f2, s2), (5, (b0 + 34), f3, s3), (12, b4, f4, s4)] h) (some (.long x.1)) (xw [(11, b0, f0, x.2.1), (7, (b0 + 8), f1, s1), (0, b2, f2, s2), (5, (b0 + 34), x.2.2.2.2, x.2.2.1), (12, b4, f4, x.2.2.2.1)] h) := fun x hx => a_meth (ini := false) (y := yX11_orders) (by decide +kernel) (fun q => by cases q) (fun _ => Nat.le_of_ble_eq_true rfl) (pX11_ordersF_w ho hq_1_0 hq_3_5 s0 s1 s2 s3 s4 a0) x hx _ _ ⟨rfl, rfl⟩
end
section
variable {l : Launch} {n0 S0 : Nat} {h : aH} {b0 b2 b4 : Nat} {f0 f1 f2 f3 f4 : Nat → Option Nat}
def pX11_ordersGh (s0 : RS) (s1 : RS) (s2 : RS) (s3 : RS) (s4 : RS) (a0 : Int32) : Option Int32 :=
  (pX11_faultOfSet s0 s1 s2 a0).bind fun x1 =>
  if x1 = 0 then
    some a0
  else
    none
theorem pX11_ordersGh_w (ho : xok [(11, b0), (7, (b0 + 8)), (0, b2), (5, (b0 + 34)), (12, b4)] h.2.1) (hq_1_0 : f1 0 = some b2) (hq_3_5 : f3 5 = some b4) (s0 : RS) (s1 : RS) (s2 : RS) (s3 : RS) (s4 : RS) (a0 : Int32) : aS l 64 MX11_orders n0 S0 (fun (x : Int32) r h' => aEv l 64 MX11_orders n0 S0 30 [(0, .ref b0)] [.int x, .ref b2, .ref (b0 + 34), .ref b0] (xw [(11, b0, f0, s0), (7, (b0 + 8), f1, s1), (0, b2, f2, s2), (5, (b0 + 34), f3, s3), (12, b4, f4, s4)] h) r h') 0 [(0, .ref b0), (1, .int a0)] [] (xw [(11, b0, f0, s0), (7, (b0 + 8), f1, s1), (0, b2, f2, s2), (5, (b0 + 34), f3, s3), (12, b4, f4, s4)] h) (pX11_ordersGh s0 s1 s2 s3 s4 a0) := by
  unfold pX11_ordersGh
  refine s_aload_n (pc := 0) 0 dX11_orders_0 rfl ?_
  refine s_iload_n (pc := 1) 1 dX11_orders_1 rfl ?_
  refine x_callV (M := MX11_orders) (L := [(11, b0, f0, s0), (7, (b0 + 8), f1, s1), (0, b2, f2, s2), (5, (b0 + 34), f3, s3), (12, b4, f4, s4)]) (h := h) (j := 0) (As := [.int a0]) (st := []) (A := fun (x : Int32) => some (.int x)) (Lc := [(11, b0, f0, s0), (7, (b0 + 8), f1, s1), (0, b2, f2, s2)]) (Lr := fun (x : Int32) => [(11, b0, f0, s0), (7, (b0 + 8), f1, s1), (0, b2, f2, s2)]) (L2 := fun (x : Int32) => [(11, b0, f0, s0), (7, (b0 + 8), f1, s1), (0, b2, f2, s2), (5, (b0 + 34), f3, s3), (12, b4, f4, s4)]) cv_X11_262 (by decide) (pc := 2) dX11_orders_2 ho rfl xc0_11 rfl rfl (Nat.le_of_ble_eq_true rfl) (xovs (L := [(11, b0, f0, s0), (7, (b0 + 8), f1, s1), (0, b2, f2, s2), (5, (b0 + 34), f3, s3), (12, b4, f4, s4)]) (h := h) [(0, (11, b0, f0, s0)), (1, (7, (b0 + 8), f1, s1)), (2, (0, b2, f2, s2))] ho ⟨rfl, rfl, rfl, trivial⟩).1 (fun x => (xovs (L := [(11, b0, f0, s0), (7, (b0 + 8), f1, s1), (0, b2, f2, s2), (5, (b0 + 34), f3, s3), (12, b4, f4, s4)]) (h := h) [(0, (11, b0, f0, s0)), (1, (7, (b0 + 8), f1, s1)), (2, (0, b2, f2, s2))] ho ⟨rfl, rfl, rfl, trivial⟩).1) (fun x hx => pX11_faultOfSet_ok (h := xw [(11, b0, f0, s0), (7, (b0 + 8), f1, s1), (0, b2, f2, s2), (5, (b0 + 34), f3, s3), (12, b4, f4, s4)] h) (f0 := f0) (f1 := f1) (f2 := f2) (xok_sub ho [0, 1, 2] rfl (by decide)) hq_1_0 s0 s1 s2 a0 x hx) rfl (fun x1 _ => ?_)
  refine s_istore_n (lv' := [(2, .int x1), (0, .ref b0), (1, .int a0)]) (pc := 5) dX11_orders_5 (by decide) rfl ?_
  refine s_iload_n (pc := 6) 0 dX11_orders_6 rfl ?_
  refine s_if_eq (tgt := 17) (pc := 7) dX11_orders_7 (by decide) (fun _ => ?_) (fun _ => ?_)
  · refine s_aload_n (pc := 17) 1 dX11_orders_17 rfl ?_
    refine s_aload_n (pc := 18) 1 dX11_orders_18 rfl ?_
    refine xg_X11_46 0 ho rfl (pc := 19) dX11_orders_19 rfl ?_
    refine s_aload_n (pc := 22) 1 dX11_orders_22 rfl ?_
    refine xg_X11_25 0 ho rfl (pc := 23) dX11_orders_23 rfl ?_
    refine xg_X11_174 1 ho rfl (pc := 26) dX11_orders_26 rfl hq_1_0 ?_
    refine s_iload_n (pc := 29) 2 dX11_orders_29 rfl ?_
    refine s_sub [1] rfl ?_
    exact s_ev (fun _ _ q => q)
  · exact fun z hz => by cases hz
end
section
variable {l : Launch} {n0 S0 : Nat} {h : aH} {b0 : Nat} {f0 : Nat → Option Nat}
def pX11_ordersGt (s0 : RS) (k1 : Int64) : Option (Int64 × RS) :=
  (pX11_tellLong s0 k1).bind fun x1 =>
  some (x1.1, x1.2)
theorem pX11_ordersGt_w (ho : xok [(11, b0)] h.2.1) (s0 : RS) (k1 : Int64) : aS l 64 MX11_orders n0 S0 (oΦ (fun (x : Int64 × RS) => ((some (.long x.1)), xw [(11, b0, f0, x.2)] h))) 33 [(0, .ref b0)] [.long k1, .ref b0] (xw [(11, b0, f0, s0)] h) (pX11_ordersGt s0 k1) := by
  unfold pX11_ordersGt
  refine x_callV (M := MX11_orders) (L := [(11, b0, f0, s0)]) (h := h) (j := 0) (As := [.long k1]) (st := []) (A := fun (x : Int64 × RS) => some (.long x.1)) (Lc := [(11, b0, f0, s0)]) (Lr := fun (x : Int64 × RS) => [(11, b0, f0, x.2)]) (L2 := fun (x : Int64 × RS) => [(11, b0, f0, x.2)]) cv_X11_121 (by decide) (pc := 33) dX11_orders_33 ho rfl xc0_11 rfl rfl (Nat.le_of_ble_eq_true rfl) (xovs (L := [(11, b0, f0, s0)]) (h := h) [(0, (11, b0, f0, s0))] ho ⟨rfl, trivial⟩).1 (fun x => (xovs (L := [(11, b0, f0, s0)]) (h := h) [(0, (11, b0, f0, x.2))] ho ⟨rfl, trivial⟩).1) (fun x hx => pX11_tellLong_ok (h := xw [(11, b0, f0, s0)] h) (f0 := f0) (xok_sub ho [0] rfl (by decide)) s0 k1 x hx) rfl (fun x1 _ => ?_)
  exact s_lret (pc := 36) dX11_orders_36 rfl (fun _ _ q => q)
end
section
variable {l : Launch} {n0 S0 : Nat} {h : aH} {b0 b2 b4 : Nat} {f0 f1 f2 f3 f4 : Nat → Option Nat}
abbrev MX11_ahead : aM := (cX11_ahead, RX11, 5, (some .boolean), false)
def X11_aheadF_j36 (s0 : RS) (s1 : RS) (s2 : RS) (s3 : RS) (s4 : RS) (b0 : Nat) (b2 : Nat) (b4 : Nat) (f3 : Nat → Option Nat) : Option (Bool × RS × RS × RS × (Nat → Option Nat)) :=
  (pX11_deny s0 (2 : Int32)).bind fun x2 =>
  some (x2.1, x2.2, s3, s4, f3)
theorem X11_aheadF_j36_ok (ho : xok [(11, b0), (7, (b0 + 8)), (0, b2), (5, (b0 + 34)), (12, b4)] h.2.1) (hq_1_0 : f1 0 = some b2) (hq_3_5 : f3 5 = some b4) (s0 : RS) (s1 : RS) (s2 : RS) (s3 : RS) (s4 : RS) : aS l 63 MX11_ahead n0 S0 (oΦ (fun (x : Bool × RS × RS × RS × (Nat → Option Nat)) => ((some (.int (b2i x.1))), xw [(11, b0, f0, x.2.1), (7, (b0 + 8), f1, s1), (0, b2, f2, s2), (5, (b0 + 34), x.2.2.2.2, x.2.2.1), (12, b4, f4, x.2.2.2.1)] h))) 36 [(0, .ref b0)] [] (xw [(11, b0, f0, s0), (7, (b0 + 8), f1, s1), (0, b2, f2, s2), (5, (b0 + 34), f3, s3), (12, b4, f4, s4)] h) (X11_aheadF_j36 s0 s1 s2 s3 s4 b0 b2 b4 f3) := by
  unfold X11_aheadF_j36
  refine s_aload_n (pc := 36) 0 dX11_ahead_36 rfl ?_
  refine s_iconst (v := 2) (pc := 37) dX11_ahead_37 (by decide) ?_
  refine x_callV (M := MX11_ahead) (L := [(11, b0, f0, s0), (7, (b0 + 8), f1, s1), (0, b2, f2, s2), (5, (b0 + 34), f3, s3), (12, b4, f4, s4)]) (h := h) (j := 0) (As := [.int 2]) (st := []) (A := fun (x : Bool × RS) => some (.int (b2i x.1))) (Lc := [(11, b0, f0, s0)]) (Lr := fun (x : Bool × RS) => [(11, b0, f0, x.2)]) (L2 := fun (x : Bool × RS) => [(11, b0, f0, x.2), (7, (b0 + 8), f1, s1), (0, b2, f2, s2), (5, (b0 + 34), f3, s3), (12, b4, f4, s4)]) cv_X11_95 (by decide) (pc := 38) dX11_ahead_38 ho rfl xc0_11 rfl rfl (Nat.le_of_ble_eq_true rfl) (xovs (L := [(11, b0, f0, s0), (7, (b0 + 8), f1, s1), (0, b2, f2, s2), (5, (b0 + 34), f3, s3), (12, b4, f4, s4)]) (h := h) [(0, (11, b0, f0, s0))] ho ⟨rfl, trivial⟩).1 (fun x => (xovs (L := [(11, b0, f0, s0), (7, (b0 + 8), f1, s1), (0, b2, f2, s2), (5, (b0 + 34), f3, s3), (12, b4, f4, s4)]) (h := h) [(0, (11, b0, f0, x.2))] ho ⟨rfl, trivial⟩).1) (fun x hx => pX11_deny_ok (h := xw [(11, b0, f0, s0), (7, (b0 + 8), f1, s1), (0, b2, f2, s2), (5, (b0 + 34), f3, s3), (12, b4, f4, s4)] h) (f0 := f0) (xok_sub ho [0] rfl (by decide)) s0 (2 : Int32) x hx) rfl (fun x2 _ => ?_)
  exact s_zretB (b := x2.1) (pc := 41) dX11_ahead_41 rfl (fun _ _ q => q)
def X11_aheadF_j63 (s0 : RS) (s1 : RS) (s2 : RS) (s3 : RS) (s4 : RS) (b0 : Nat) (b2 : Nat) (b4 : Nat) (f3 : Nat → Option Nat) : Option (Bool × RS × RS × RS × (Nat → Option Nat)) :=
  (pX11_deny s0 (2 : Int32)).bind fun x5 =>
  some (x5.1, x5.2, s3, s4, f3)
theorem X11_aheadF_j63_ok (ho : xok [(11, b0), (7, (b0 + 8)), (0, b2), (5, (b0 + 34)), (12, b4)] h.2.1) (hq_1_0 : f1 0 = some b2) (hq_3_5 : f3 5 = some b4) (s0 : RS) (s1 : RS) (s2 : RS) (s3 : RS) (s4 : RS) : aS l 63 MX11_ahead n0 S0 (oΦ (fun (x : Bool × RS × RS × RS × (Nat → Option Nat)) => ((some (.int (b2i x.1))), xw [(11, b0, f0, x.2.1), (7, (b0 + 8), f1, s1), (0, b2, f2, s2), (5, (b0 + 34), x.2.2.2.2, x.2.2.1), (12, b4, f4, x.2.2.2.1)] h))) 63 [(0, .ref b0)] [] (xw [(11, b0, f0, s0), (7, (b0 + 8), f1, s1), (0, b2, f2, s2), (5, (b0 + 34), f3, s3), (12, b4, f4, s4)] h) (X11_aheadF_j63 s0 s1 s2 s3 s4 b0 b2 b4 f3) := by
  unfold X11_aheadF_j63
  refine s_aload_n (pc := 63) 0 dX11_ahead_63 rfl ?_
  refine s_iconst (v := 2) (pc := 64) dX11_ahead_64 (by decide) ?_
  refine x_callV (M := MX11_ahead) (L := [(11, b0, f0, s0), (7, (b0 + 8), f1, s1), (0, b2, f2, s2), (5, (b0 + 34), f3, s3), (12, b4, f4, s4)]) (h := h) (j := 0) (As := [.int 2]) (st := []) (A := fun (x : Bool × RS) => some (.int (b2i x.1))) (Lc := [(11, b0, f0, s0)]) (Lr := fun (x : Bool × RS) => [(11, b0, f0, x.2)]) (L2 := fun (x : Bool × RS) => [(11, b0, f0, x.2), (7, (b0 + 8), f1, s1), (0, b2, f2, s2), (5, (b0 + 34), f3, s3), (12, b4, f4, s4)]) cv_X11_95 (by decide) (pc := 65) dX11_ahead_65 ho rfl xc0_11 rfl rfl (Nat.le_of_ble_eq_true rfl) (xovs (L := [(11, b0, f0, s0), (7, (b0 + 8), f1, s1), (0, b2, f2, s2), (5, (b0 + 34), f3, s3), (12, b4, f4, s4)]) (h := h) [(0, (11, b0, f0, s0))] ho ⟨rfl, trivial⟩).1 (fun x => (xovs (L := [(11, b0, f0, s0), (7, (b0 + 8), f1, s1), (0, b2, f2, s2), (5, (b0 + 34), f3, s3), (12, b4, f4, s4)]) (h := h) [(0, (11, b0, f0, x.2))] ho ⟨rfl, trivial⟩).1) (fun x hx => pX11_deny_ok (h := xw [(11, b0, f0, s0), (7, (b0 + 8), f1, s1), (0, b2, f2, s2), (5, (b0 + 34), f3, s3), (12, b4, f4, s4)] h) (f0 := f0) (xok_sub ho [0] rfl (by decide)) s0 (2 : Int32) x hx) rfl (fun x5 _ => ?_)
  exact s_zretB (b := x5.1) (pc := 68) dX11_ahead_68 rfl (fun _ _ q => q)
def pX11_aheadF (s0 : RS) (s1 : RS) (s2 : RS) (s3 : RS) (s4 : RS) (b0 : Nat) (b2 : Nat) (b4 : Nat) (f3 : Nat → Option Nat) (a0 : Int32) (a1 : Int32) (a2 : Int32) : Option (Bool × RS × RS × RS × (Nat → Option Nat)) :=
  (pX0_isSet s2 a0).bind fun x1 =>
  if x1 = true then
    (pX0_isChange s2 a1).bind fun x3 =>
    if x3 = true then
      (pX0_isChange s2 a2).bind fun x4 =>
      if x4 = true then
        if a1 = a2 then
          X11_aheadF_j63 s0 s1 s2 s3 s4 b0 b2 b4 f3
        else
          (pX0_isIn a0 a1).bind fun x6 =>
          if x6 = true then
            (pX0_isIn a0 a2).bind fun x7 =>
            if x7 = true then
              (pX0_isClosed s2 a0).bind fun x8 =>
              if x8 = true then
                (pX5_countOrdersWithF s3 s2 s4 a0 a1 a2).bind fun x9 =>
                (pX5_countOrdersF x9.2.1 s2 x9.2.2 a0).bind fun x10 =>
                (pX11_tellFraction s0 x9.1 x10.1).bind fun x11 =>
                (pX11_grant x11).bind fun x12 =>
                some (x12.1, x12.2, x10.2.1, x10.2.2, (va_up (va_up f3 0 (some b2)) 0 (some b2)))
              else
                (pX11_deny s0 (9 : Int32)).bind fun x13 =>
                some (x13.1, x13.2, s3, s4, f3)
            else
              X11_aheadF_j63 s0 s1 s2 s3 s4 b0 b2 b4 f3
          else
            X11_aheadF_j63 s0 s1 s2 s3 s4 b0 b2 b4 f3
      else
        X11_aheadF_j36 s0 s1 s2 s3 s4 b0 b2 b4 f3
    else
      X11_aheadF_j36 s0 s1 s2 s3 s4 b0 b2 b4 f3
  else
    X11_aheadF_j36 s0 s1 s2 s3 s4 b0 b2 b4 f3
theorem pX11_aheadF_w (ho : xok [(11, b0), (7, (b0 + 8)), (0, b2), (5, (b0 + 34)), (12, b4)] h.2.1) (hq_1_0 : f1 0 = some b2) (hq_3_5 : f3 5 = some b4) (s0 : RS) (s1 : RS) (s2 : RS) (s3 : RS) (s4 : RS) (a0 : Int32) (a1 : Int32) (a2 : Int32) : aS l 63 MX11_ahead n0 S0 (oΦ (fun (x : Bool × RS × RS × RS × (Nat → Option Nat)) => ((some (.int (b2i x.1))), xw [(11, b0, f0, x.2.1), (7, (b0 + 8), f1, s1), (0, b2, f2, s2), (5, (b0 + 34), x.2.2.2.2, x.2.2.1), (12, b4, f4, x.2.2.2.1)] h))) 0 [(0, .ref b0), (1, .int a0), (2, .int a1), (3, .int a2)] [] (xw [(11, b0, f0, s0), (7, (b0 + 8), f1, s1), (0, b2, f2, s2), (5, (b0 + 34), f3, s3), (12, b4, f4, s4)] h) (pX11_aheadF s0 s1 s2 s3 s4 b0 b2 b4 f3 a0 a1 a2) := by
  unfold pX11_aheadF
  refine s_aload_n (pc := 0) 0 dX11_ahead_0 rfl ?_
  refine xg_X11_25 0 ho rfl (pc := 1) dX11_ahead_1 rfl ?_
  refine xg_X11_174 1 ho rfl (pc := 4) dX11_ahead_4 rfl hq_1_0 ?_
  refine s_astore (lv' := [(4, .ref b2), (0, .ref b0), (1, .int a0), (2, .int a1), (3, .int a2)]) (pc := 7) dX11_ahead_7 (by decide) rfl ?_
  refine s_aload (pc := 9) 0 dX11_ahead_9 rfl ?_
  refine s_iload_n (pc := 11) 2 dX11_ahead_11 rfl ?_
  refine x_callV (M := MX11_ahead) (L := [(11, b0, f0, s0), (7, (b0 + 8), f1, s1), (0, b2, f2, s2), (5, (b0 + 34), f3, s3), (12, b4, f4, s4)]) (h := h) (j := 2) (As := [.int a0]) (st := []) (A := fun (x : Bool) => some (.int (b2i x))) (Lc := [(0, b2, f2, s2)]) (Lr := fun (x : Bool) => [(0, b2, f2, s2)]) (L2 := fun (x : Bool) => [(11, b0, f0, s0), (7, (b0 + 8), f1, s1), (0, b2, f2, s2), (5, (b0 + 34), f3, s3), (12, b4, f4, s4)]) cv_X11_241 (by decide) (pc := 12) dX11_ahead_12 ho rfl xc0_0 rfl rfl (Nat.le_of_ble_eq_true rfl) (xovs (L := [(11, b0, f0, s0), (7, (b0 + 8), f1, s1), (0, b2, f2, s2), (5, (b0 + 34), f3, s3), (12, b4, f4, s4)]) (h := h) [(2, (0, b2, f2, s2))] ho ⟨rfl, trivial⟩).1 (fun x => (xovs (L := [(11, b0, f0, s0), (7, (b0 + 8), f1, s1), (0, b2, f2, s2), (5, (b0 + 34), f3, s3), (12, b4, f4, s4)]) (h := h) [(2, (0, b2, f2, s2))] ho ⟨rfl, trivial⟩).1) (fun x hx => pX0_isSet_ok (h := xw [(11, b0, f0, s0), (7, (b0 + 8), f1, s1), (0, b2, f2, s2), (5, (b0 + 34), f3, s3), (12, b4, f4, s4)] h) (f0 := f2) (xok_sub ho [2] rfl (by decide)) s2 a0 x hx) rfl (fun x1 _ => ?_)
  refine s_if_eqB (tgt := 36) (pc := 15) dX11_ahead_15 (by decide) (fun _ => ?_) (fun _ => ?_)
  · refine s_aload (pc := 18) 0 dX11_ahead_18 rfl ?_
    refine s_iload_n (pc := 20) 3 dX11_ahead_20 rfl ?_
    refine x_callV (M := MX11_ahead) (L := [(11, b0, f0, s0), (7, (b0 + 8), f1, s1), (0, b2, f2, s2), (5, (b0 + 34), f3, s3), (12, b4, f4, s4)]) (h := h) (j := 2) (As := [.int a1]) (st := []) (A := fun (x : Bool) => some (.int (b2i x))) (Lc := [(0, b2, f2, s2)]) (Lr := fun (x : Bool) => [(0, b2, f2, s2)]) (L2 := fun (x : Bool) => [(11, b0, f0, s0), (7, (b0 + 8), f1, s1), (0, b2, f2, s2), (5, (b0 + 34), f3, s3), (12, b4, f4, s4)]) cv_X11_212 (by decide) (pc := 21) dX11_ahead_21 ho rfl xc0_0 rfl rfl (Nat.le_of_ble_eq_true rfl) (xovs (L := [(11, b0, f0, s0), (7, (b0 + 8), f1, s1), (0, b2, f2, s2), (5, (b0 + 34), f3, s3), (12, b4, f4, s4)]) (h := h) [(2, (0, b2, f2, s2))] ho ⟨rfl, trivial⟩).1 (fun x => (xovs (L := [(11, b0, f0, s0), (7, (b0 + 8), f1, s1), (0, b2, f2, s2), (5, (b0 + 34), f3, s3), (12, b4, f4, s4)]) (h := h) [(2, (0, b2, f2, s2))] ho ⟨rfl, trivial⟩).1) (fun x hx => pX0_isChange_ok (h := xw [(11, b0, f0, s0), (7, (b0 + 8), f1, s1), (0, b2, f2, s2), (5, (b0 + 34), f3, s3), (12, b4, f4, s4)] h) (f0 := f2) (xok_sub ho [2] rfl (by decide)) s2 a1 x hx) rfl (fun x3 _ => ?_)
    refine s_if_eqB (tgt := 36) (pc := 24) dX11_ahead_24 (by decide) (fun _ => ?_) (fun _ => ?_)
    · refine s_aload (pc := 27) 0 dX11_ahead_27 rfl ?_
      refine s_iload_n (pc := 29) 4 dX11_ahead_29 rfl ?_
      refine x_callV (M := MX11_ahead) (L := [(11, b0, f0, s0), (7, (b0 + 8), f1, s1), (0, b2, f2, s2), (5, (b0 + 34), f3, s3), (12, b4, f4, s4)]) (h := h) (j := 2) (As := [.int a2]) (st := []) (A := fun (x : Bool) => some (.int (b2i x))) (Lc := [(0, b2, f2, s2)]) (Lr := fun (x : Bool) => [(0, b2, f2, s2)]) (L2 := fun (x : Bool) => [(11, b0, f0, s0), (7, (b0 + 8), f1, s1), (0, b2, f2, s2), (5, (b0 + 34), f3, s3), (12, b4, f4, s4)]) cv_X11_212 (by decide) (pc := 30) dX11_ahead_30 ho rfl xc0_0 rfl rfl (Nat.le_of_ble_eq_true rfl) (xovs (L := [(11, b0, f0, s0), (7, (b0 + 8), f1, s1), (0, b2, f2, s2), (5, (b0 + 34), f3, s3), (12, b4, f4, s4)]) (h := h) [(2, (0, b2, f2, s2))] ho ⟨rfl, trivial⟩).1 (fun x => (xovs (L := [(11, b0, f0, s0), (7, (b0 + 8), f1, s1), (0, b2, f2, s2), (5, (b0 + 34), f3, s3), (12, b4, f4, s4)]) (h := h) [(2, (0, b2, f2, s2))] ho ⟨rfl, trivial⟩).1) (fun x hx => pX0_isChange_ok (h := xw [(11, b0, f0, s0), (7, (b0 + 8), f1, s1), (0, b2, f2, s2), (5, (b0 + 34), f3, s3), (12, b4, f4, s4)] h) (f0 := f2) (xok_sub ho [2] rfl (by decide)) s2 a2 x hx) rfl (fun x4 _ => ?_)
      refine s_if_neB (tgt := 42) (pc := 33) dX11_ahead_33 (by decide) (fun _ => ?_) (fun _ => ?_)
      · refine s_iload_n (pc := 42) 3 dX11_ahead_42 rfl ?_
        refine s_iload_n (pc := 43) 4 dX11_ahead_43 rfl ?_
        refine s_icmp_eq (tgt := 63) (pc := 44) dX11_ahead_44 (by decide) (fun _ => ?_) (fun _ => ?_)
        · refine s_sub [1] rfl ?_
          exact X11_aheadF_j63_ok ho hq_1_0 hq_3_5 s0 s1 s2 s3 s4
        · refine s_iload_n (pc := 47) 2 dX11_ahead_47 rfl ?_
          refine s_iload_n (pc := 48) 3 dX11_ahead_48 rfl ?_
          refine s_callS (M := MX11_ahead) (As := [.int a0, .int a1]) (st := []) (Ψ := fun (x : Bool) => (some (.int (b2i x)), xw [(11, b0, f0, s0), (7, (b0 + 8), f1, s1), (0, b2, f2, s2), (5, (b0 + 34), f3, s3), (12, b4, f4, s4)] h)) cs_X11_305 (by decide) (pc := 49) dX11_ahead_49 rfl (Nat.le_of_ble_eq_true rfl) (fun x hx => pX0_isIn_ok a0 a1 x hx) rfl (fun x6 _ => ?_)
          refine s_if_eqB (tgt := 63) (pc := 52) dX11_ahead_52 (by decide) (fun _ => ?_) (fun _ => ?_)
          · refine s_iload_n (pc := 55) 2 dX11_ahead_55 rfl ?_
            refine s_iload_n (pc := 56) 4 dX11_ahead_56 rfl ?_
            refine s_callS (M := MX11_ahead) (As := [.int a0, .int a2]) (st := []) (Ψ := fun (x : Bool) => (some (.int (b2i x)), xw [(11, b0, f0, s0), (7, (b0 + 8), f1, s1), (0, b2, f2, s2), (5, (b0 + 34), f3, s3), (12, b4, f4, s4)] h)) cs_X11_305 (by decide) (pc := 57) dX11_ahead_57 rfl (Nat.le_of_ble_eq_true rfl) (fun x hx => pX0_isIn_ok a0 a2 x hx) rfl (fun x7 _ => ?_)
            refine s_if_neB (tgt := 69) (pc := 60) dX11_ahead_60 (by decide) (fun _ => ?_) (fun _ => ?_)
            · refine s_aload (pc := 69) 0 dX11_ahead_69 rfl ?_
              refine s_iload_n (pc := 71) 2 dX11_ahead_71 rfl ?_
              refine x_callV (M := MX11_ahead) (L := [(11, b0, f0, s0), (7, (b0 + 8), f1, s1), (0, b2, f2, s2), (5, (b0 + 34), f3, s3), (12, b4, f4, s4)]) (h := h) (j := 2) (As := [.int a0]) (st := []) (A := fun (x : Bool) => some (.int (b2i x))) (Lc := [(0, b2, f2, s2)]) (Lr := fun (x : Bool) => [(0, b2, f2, s2)]) (L2 := fun (x : Bool) => [(11, b0, f0, s0), (7, (b0 + 8), f1, s1), (0, b2, f2, s2), (5, (b0 + 34), f3, s3), (12, b4, f4, s4)]) cv_X11_244 (by decide) (pc := 72) dX11_ahead_72 ho rfl xc0_0 rfl rfl (Nat.le_of_ble_eq_true rfl) (xovs (L := [(11, b0, f0, s0), (7, (b0 + 8), f1, s1), (0, b2, f2, s2), (5, (b0 + 34), f3, s3), (12, b4, f4, s4)]) (h := h) [(2, (0, b2, f2, s2))] ho ⟨rfl, trivial⟩).1 (fun x => (xovs (L := [(11, b0, f0, s0), (7, (b0 + 8), f1, s1), (0, b2, f2, s2), (5, (b0 + 34), f3, s3), (12, b4, f4, s4)]) (h := h) [(2, (0, b2, f2, s2))] ho ⟨rfl, trivial⟩).1) (fun x hx => pX0_isClosed_ok (h := xw [(11, b0, f0, s0), (7, (b0 + 8), f1, s1), (0, b2, f2, s2), (5, (b0 + 34), f3, s3), (12, b4, f4, s4)] h) (f0 := f2) (xok_sub ho [2] rfl (by decide)) s2 a0 x hx) rfl (fun x8 _ => ?_)
              refine s_if_neB (tgt := 85) (pc := 75) dX11_ahead_75 (by decide) (fun _ => ?_) (fun _ => ?_)
              · refine s_aload_n (pc := 85) 1 dX11_ahead_85 rfl ?_
                refine s_aload_n (pc := 86) 1 dX11_ahead_86 rfl ?_
                refine xg_X11_46 0 ho rfl (pc := 87) dX11_ahead_87 rfl ?_
                refine s_aload (pc := 90) 0 dX11_ahead_90 rfl ?_
                refine s_iload_n (pc := 92) 2 dX11_ahead_92 rfl ?_
                refine s_iload_n (pc := 93) 3 dX11_ahead_93 rfl ?_
                refine s_iload_n (pc := 94) 4 dX11_ahead_94 rfl ?_
                refine x_callV (M := MX11_ahead) (L := [(11, b0, f0, s0), (7, (b0 + 8), f1, s1), (0, b2, f2, s2), (5, (b0 + 34), f3, s3), (12, b4, f4, s4)]) (h := h) (j := 3) (As := [.ref b2, .int a0, .int a1, .int a2]) (st := [.ref b0]) (A := fun (x : Int64 × RS × RS) => some (.long x.1)) (Lc := [(5, (b0 + 34), f3, s3), (0, b2, f2, s2), (12, b4, f4, s4)]) (Lr := fun (x : Int64 × RS × RS) => [(5, (b0 + 34), (va_up f3 0 (some b2)), x.2.1), (0, b2, f2, s2), (12, b4, f4, x.2.2)]) (L2 := fun (x : Int64 × RS × RS) => [(11, b0, f0, s0), (7, (b0 + 8), f1, s1), (0, b2, f2, s2), (5, (b0 + 34), (va_up f3 0 (some b2)), x.2.1), (12, b4, f4, x.2.2)]) cv_X11_325 (by decide) (pc := 95) dX11_ahead_95 ho rfl xc0_5 rfl rfl (Nat.le_of_ble_eq_true rfl) (xovs (L := [(11, b0, f0, s0), (7, (b0 + 8), f1, s1), (0, b2, f2, s2), (5, (b0 + 34), f3, s3), (12, b4, f4, s4)]) (h := h) [(3, (5, (b0 + 34), f3, s3)), (2, (0, b2, f2, s2)), (4, (12, b4, f4, s4))] ho ⟨rfl, rfl, rfl, trivial⟩).1 (fun x => (xovs (L := [(11, b0, f0, s0), (7, (b0 + 8), f1, s1), (0, b2, f2, s2), (5, (b0 + 34), f3, s3), (12, b4, f4, s4)]) (h := h) [(3, (5, (b0 + 34), (va_up f3 0 (some b2)), x.2.1)), (2, (0, b2, f2, s2)), (4, (12, b4, f4, x.2.2))] ho ⟨rfl, rfl, rfl, trivial⟩).1) (fun x hx => pX5_countOrdersWithF_ok (h := xw [(11, b0, f0, s0), (7, (b0 + 8), f1, s1), (0, b2, f2, s2), (5, (b0 + 34), f3, s3), (12, b4, f4, s4)] h) (f0 := f3) (f1 := f2) (f2 := f4) (xok_sub ho [3, 2, 4] rfl (by decide)) hq_3_5 s3 s2 s4 a0 a1 a2 x hx) rfl (fun x9 _ => ?_)
                refine s_aload_n (pc := 98) 1 dX11_ahead_98 rfl ?_
                refine xg_X11_46 0 ho rfl (pc := 99) dX11_ahead_99 rfl ?_
                refine s_aload (pc := 102) 0 dX11_ahead_102 rfl ?_
                refine s_iload_n (pc := 104) 2 dX11_ahead_104 rfl ?_
                refine x_callV (M := MX11_ahead) (L := [(11, b0, f0, s0), (7, (b0 + 8), f1, s1), (0, b2, f2, s2), (5, (b0 + 34), (va_up f3 0 (some b2)), x9.2.1), (12, b4, f4, x9.2.2)]) (h := h) (j := 3) (As := [.ref b2, .int a0]) (st := [.long x9.1, .ref b0]) (A := fun (x : Int64 × RS × RS) => some (.long x.1)) (Lc := [(5, (b0 + 34), (va_up f3 0 (some b2)), x9.2.1), (0, b2, f2, s2), (12, b4, f4, x9.2.2)]) (Lr := fun (x : Int64 × RS × RS) => [(5, (b0 + 34), (va_up (va_up f3 0 (some b2)) 0 (some b2)), x.2.1), (0, b2, f2, s2), (12, b4, f4, x.2.2)]) (L2 := fun (x : Int64 × RS × RS) => [(11, b0, f0, s0), (7, (b0 + 8), f1, s1), (0, b2, f2, s2), (5, (b0 + 34), (va_up (va_up f3 0 (some b2)) 0 (some b2)), x.2.1), (12, b4, f4, x.2.2)]) cv_X11_321 (by decide) (pc := 105) dX11_ahead_105 ho rfl xc0_5 rfl rfl (Nat.le_of_ble_eq_true rfl) (xovs (L := [(11, b0, f0, s0), (7, (b0 + 8), f1, s1), (0, b2, f2, s2), (5, (b0 + 34), (va_up f3 0 (some b2)), x9.2.1), (12, b4, f4, x9.2.2)]) (h := h) [(3, (5, (b0 + 34), (va_up f3 0 (some b2)), x9.2.1)), (2, (0, b2, f2, s2)), (4, (12, b4, f4, x9.2.2))] ho ⟨rfl, rfl, rfl, trivial⟩).1 (fun x => (xovs (L := [(11, b0, f0, s0), (7, (b0 + 8), f1, s1), (0, b2, f2, s2), (5, (b0 + 34), (va_up f3 0 (some b2)), x9.2.1), (12, b4, f4, x9.2.2)]) (h := h) [(3, (5, (b0 + 34), (va_up (va_up f3 0 (some b2)) 0 (some b2)), x.2.1)), (2, (0, b2, f2, s2)), (4, (12, b4, f4, x.2.2))] ho ⟨rfl, rfl, rfl, trivial⟩).1) (fun x hx => pX5_countOrdersF_ok (h := xw [(11, b0, f0, s0), (7, (b0 + 8), f1, s1), (0, b2, f2, s2), (5, (b0 + 34), (va_up f3 0 (some b2)), x9.2.1), (12, b4, f4, x9.2.2)] h) (f0 := (va_up f3 0 (some b2))) (f1 := f2) (f2 := f4) (xok_sub ho [3, 2, 4] rfl (by decide)) hq_3_5 x9.2.1 s2 x9.2.2 a0 x hx) rfl (fun x10 _ => ?_)
                refine x_callV (M := MX11_ahead) (L := [(11, b0, f0, s0), (7, (b0 + 8), f1, s1), (0, b2, f2, s2), (5, (b0 + 34), (va_up (va_up f3 0 (some b2)) 0 (some b2)), x10.2.1), (12, b4, f4, x10.2.2)]) (h := h) (j := 0) (As := [.long x9.1, .long x10.1]) (st := []) (A := fun (x : RS) => none) (Lc := [(11, b0, f0, s0)]) (Lr := fun (x : RS) => [(11, b0, f0, x)]) (L2 := fun (x : RS) => [(11, b0, f0, x), (7, (b0 + 8), f1, s1), (0, b2, f2, s2), (5, (b0 + 34), (va_up (va_up f3 0 (some b2)) 0 (some b2)), x10.2.1), (12, b4, f4, x10.2.2)]) cv_X11_329 (by decide) (pc := 108) dX11_ahead_108 ho rfl xc0_11 rfl rfl (Nat.le_of_ble_eq_true rfl) (xovs (L := [(11, b0, f0, s0), (7, (b0 + 8), f1, s1), (0, b2, f2, s2), (5, (b0 + 34), (va_up (va_up f3 0 (some b2)) 0 (some b2)), x10.2.1), (12, b4, f4, x10.2.2)]) (h := h) [(0, (11, b0, f0, s0))] ho ⟨rfl, trivial⟩).1 (fun x => (xovs (L := [(11, b0, f0, s0), (7, (b0 + 8), f1, s1), (0, b2, f2, s2), (5, (b0 + 34), (va_up (va_up f3 0 (some b2)) 0 (some b2)), x10.2.1), (12, b4, f4, x10.2.2)]) (h := h) [(0, (11, b0, f0, x))] ho ⟨rfl, trivial⟩).1) (fun x hx => pX11_tellFraction_ok (h := xw [(11, b0, f0, s0), (7, (b0 + 8), f1, s1), (0, b2, f2, s2), (5, (b0 + 34), (va_up (va_up f3 0 (some b2)) 0 (some b2)), x10.2.1), (12, b4, f4, x10.2.2)] h) (f0 := f0) (xok_sub ho [0] rfl (by decide)) s0 x9.1 x10.1 x hx) rfl (fun x11 _ => ?_)
                refine s_aload_n (pc := 111) 1 dX11_ahead_111 rfl ?_
                refine x_callV (M := MX11_ahead) (L := [(11, b0, f0, x11), (7, (b0 + 8), f1, s1), (0, b2, f2, s2), (5, (b0 + 34), (va_up (va_up f3 0 (some b2)) 0 (some b2)), x10.2.1), (12, b4, f4, x10.2.2)]) (h := h) (j := 0) (As := []) (st := []) (A := fun (x : Bool × RS) => some (.int (b2i x.1))) (Lc := [(11, b0, f0, x11)]) (Lr := fun (x : Bool × RS) => [(11, b0, f0, x.2)]) (L2 := fun (x : Bool × RS) => [(11, b0, f0, x.2), (7, (b0 + 8), f1, s1), (0, b2, f2, s2), (5, (b0 + 34), (va_up (va_up f3 0 (some b2)) 0 (some b2)), x10.2.1), (12, b4, f4, x10.2.2)]) cv_X11_102 (by decide) (pc := 112) dX11_ahead_112 ho rfl xc0_11 rfl rfl (Nat.le_of_ble_eq_true rfl) (xovs (L := [(11, b0, f0, x11), (7, (b0 + 8), f1, s1), (0, b2, f2, s2), (5, (b0 + 34), (va_up (va_up f3 0 (some b2)) 0 (some b2)), x10.2.1), (12, b4, f4, x10.2.2)]) (h := h) [(0, (11, b0, f0, x11))] ho ⟨rfl, trivial⟩).1 (fun x => (xovs (L := [(11, b0, f0, x11), (7, (b0 + 8), f1, s1), (0, b2, f2, s2), (5, (b0 + 34), (va_up (va_up f3 0 (some b2)) 0 (some b2)), x10.2.1), (12, b4, f4, x10.2.2)]) (h := h) [(0, (11, b0, f0, x.2))] ho ⟨rfl, trivial⟩).1) (fun x hx => pX11_grant_ok (h := xw [(11, b0, f0, x11), (7, (b0 + 8), f1, s1), (0, b2, f2, s2), (5, (b0 + 34), (va_up (va_up f3 0 (some b2)) 0 (some b2)), x10.2.1), (12, b4, f4, x10.2.2)] h) (f0 := f0) (xok_sub ho [0] rfl (by decide)) x11 x hx) rfl (fun x12 _ => ?_)
                exact s_zretB (b := x12.1) (pc := 115) dX11_ahead_115 rfl (fun _ _ q => q)
              · refine s_aload_n (pc := 78) 1 dX11_ahead_78 rfl ?_
                refine s_bipush (v := 9) (pc := 79) dX11_ahead_79 (by decide) ?_
                refine x_callV (M := MX11_ahead) (L := [(11, b0, f0, s0), (7, (b0 + 8), f1, s1), (0, b2, f2, s2), (5, (b0 + 34), f3, s3), (12, b4, f4, s4)]) (h := h) (j := 0) (As := [.int 9]) (st := []) (A := fun (x : Bool × RS) => some (.int (b2i x.1))) (Lc := [(11, b0, f0, s0)]) (Lr := fun (x : Bool × RS) => [(11, b0, f0, x.2)]) (L2 := fun (x : Bool × RS) => [(11, b0, f0, x.2), (7, (b0 + 8), f1, s1), (0, b2, f2, s2), (5, (b0 + 34), f3, s3), (12, b4, f4, s4)]) cv_X11_95 (by decide) (pc := 81) dX11_ahead_81 ho rfl xc0_11 rfl rfl (Nat.le_of_ble_eq_true rfl) (xovs (L := [(11, b0, f0, s0), (7, (b0 + 8), f1, s1), (0, b2, f2, s2), (5, (b0 + 34), f3, s3), (12, b4, f4, s4)]) (h := h) [(0, (11, b0, f0, s0))] ho ⟨rfl, trivial⟩).1 (fun x => (xovs (L := [(11, b0, f0, s0), (7, (b0 + 8), f1, s1), (0, b2, f2, s2), (5, (b0 + 34), f3, s3), (12, b4, f4, s4)]) (h := h) [(0, (11, b0, f0, x.2))] ho ⟨rfl, trivial⟩).1) (fun x hx => pX11_deny_ok (h := xw [(11, b0, f0, s0), (7, (b0 + 8), f1, s1), (0, b2, f2, s2), (5, (b0 + 34), f3, s3), (12, b4, f4, s4)] h) (f0 := f0) (xok_sub ho [0] rfl (by decide)) s0 (9 : Int32) x hx) rfl (fun x13 _ => ?_)
                exact s_zretB (b := x13.1) (pc := 84) dX11_ahead_84 rfl (fun _ _ q => q)
            · refine s_sub [1] rfl ?_
              exact X11_aheadF_j63_ok ho hq_1_0 hq_3_5 s0 s1 s2 s3 s4
          · refine s_sub [1] rfl ?_
            exact X11_aheadF_j63_ok ho hq_1_0 hq_3_5 s0 s1 s2 s3 s4
      · refine s_sub [1] rfl ?_
        exact X11_aheadF_j36_ok ho hq_1_0 hq_3_5 s0 s1 s2 s3 s4
    · refine s_sub [1] rfl ?_
      exact X11_aheadF_j36_ok ho hq_1_0 hq_3_5 s0 s1 s2 s3 s4
  · refine s_sub [1] rfl ?_
    exact X11_aheadF_j36_ok ho hq_1_0 hq_3_5 s0 s1 s2 s3 s4
theorem pX11_aheadF_ok (ho : xok [(11, b0), (7, (b0 + 8)), (0, b2), (5, (b0 + 34)), (12, b4)] h.2.1) (hq_1_0 : f1 0 = some b2) (hq_3_5 : f3 5 = some b4) (s0 : RS) (s1 : RS) (s2 : RS) (s3 : RS) (s4 : RS) (a0 : Int32) (a1 : Int32) (a2 : Int32) : ∀ x, pX11_aheadF s0 s1 s2 s3 s4 b0 b2 b4 f3 a0 a1 a2 = some x → aMet l 63 yX11_ahead cX11_ahead 5 (some .boolean) [.ref b0, .int a0, .int a1, .int a2] (xw [(11, b0, f0, s0), (7, (b0 + 8), f1, s1), (0, b2, f2, s2), (5, (b0 + 34), f3, s3), (12, b4, f4, s4)] h) (some (.int (b2i x.1))) (xw [(11, b0, f0, x.2.1), (7, (b0 + 8), f1, s1), (0, b2, f2, s2), (5, (b0 + 34), x.2.2.2.2, x.2.2.1), (12, b4, f4, x.2.2.2.1)] h) := fun x hx => a_meth (ini := false) (y := yX11_ahead) (by decide +kernel) (fun q => by cases q) (fun _ => Nat.le_of_ble_eq_true rfl) (pX11_aheadF_w ho hq_1_0 hq_3_5 s0 s1 s2 s3 s4 a0 a1 a2) x hx _ _ ⟨rfl, rfl⟩
end
section
variable {l : Launch} {n0 S0 : Nat} {h : aH} {b0 b2 b4 : Nat} {f0 f1 f2 f3 f4 : Nat → Option Nat}
def pX11_aheadGh (s0 : RS) (s1 : RS) (s2 : RS) (s3 : RS) (s4 : RS) (a0 : Int32) (a1 : Int32) (a2 : Int32) : Option (Int32 × Int32 × Int32 × Int32) :=
  (pX0_isSet s2 a0).bind fun x1 =>
  if x1 = true then
    (pX0_isChange s2 a1).bind fun x2 =>
    if x2 = true then
      (pX0_isChange s2 a2).bind fun x3 =>
      if x3 = true then
        if a1 = a2 then
          none
        else
          (pX0_isIn a0 a1).bind fun x4 =>
          if x4 = true then
            (pX0_isIn a0 a2).bind fun x5 =>
            if x5 = true then
              (pX0_isClosed s2 a0).bind fun x6 =>
              if x6 = true then
                some (a0, a0, a1, a2)
              else
                none
            else
              none
          else
            none
      else
        none
    else
      none
  else
    none
theorem pX11_aheadGh_w (ho : xok [(11, b0), (7, (b0 + 8)), (0, b2), (5, (b0 + 34)), (12, b4)] h.2.1) (hq_1_0 : f1 0 = some b2) (hq_3_5 : f3 5 = some b4) (s0 : RS) (s1 : RS) (s2 : RS) (s3 : RS) (s4 : RS) (a0 : Int32) (a1 : Int32) (a2 : Int32) : aS l 64 MX11_ahead n0 S0 (fun (x : Int32 × Int32 × Int32 × Int32) r h' => aEv l 64 MX11_ahead n0 S0 95 [(0, .ref b0), (1, .int x.1), (4, .ref b2)] [.int x.2.2.2, .int x.2.2.1, .int x.2.1, .ref b2, .ref (b0 + 34), .ref b0] (xw [(11, b0, f0, s0), (7, (b0 + 8), f1, s1), (0, b2, f2, s2), (5, (b0 + 34), f3, s3), (12, b4, f4, s4)] h) r h') 0 [(0, .ref b0), (1, .int a0), (2, .int a1), (3, .int a2)] [] (xw [(11, b0, f0, s0), (7, (b0 + 8), f1, s1), (0, b2, f2, s2), (5, (b0 + 34), f3, s3), (12, b4, f4, s4)] h) (pX11_aheadGh s0 s1 s2 s3 s4 a0 a1 a2) := by
  unfold pX11_aheadGh
  refine s_aload_n (pc := 0) 0 dX11_ahead_0 rfl ?_
  refine xg_X11_25 0 ho rfl (pc := 1) dX11_ahead_1 rfl ?_
  refine xg_X11_174 1 ho rfl (pc := 4) dX11_ahead_4 rfl hq_1_0 ?_
  refine s_astore (lv' := [(4, .ref b2), (0, .ref b0), (1, .int a0), (2, .int a1), (3, .int a2)]) (pc := 7) dX11_ahead_7 (by decide) rfl ?_
  refine s_aload (pc := 9) 0 dX11_ahead_9 rfl ?_
  refine s_iload_n (pc := 11) 2 dX11_ahead_11 rfl ?_
  refine x_callV (M := MX11_ahead) (L := [(11, b0, f0, s0), (7, (b0 + 8), f1, s1), (0, b2, f2, s2), (5, (b0 + 34), f3, s3), (12, b4, f4, s4)]) (h := h) (j := 2) (As := [.int a0]) (st := []) (A := fun (x : Bool) => some (.int (b2i x))) (Lc := [(0, b2, f2, s2)]) (Lr := fun (x : Bool) => [(0, b2, f2, s2)]) (L2 := fun (x : Bool) => [(11, b0, f0, s0), (7, (b0 + 8), f1, s1), (0, b2, f2, s2), (5, (b0 + 34), f3, s3), (12, b4, f4, s4)]) cv_X11_241 (by decide) (pc := 12) dX11_ahead_12 ho rfl xc0_0 rfl rfl (Nat.le_of_ble_eq_true rfl) (xovs (L := [(11, b0, f0, s0), (7, (b0 + 8), f1, s1), (0, b2, f2, s2), (5, (b0 + 34), f3, s3), (12, b4, f4, s4)]) (h := h) [(2, (0, b2, f2, s2))] ho ⟨rfl, trivial⟩).1 (fun x => (xovs (L := [(11, b0, f0, s0), (7, (b0 + 8), f1, s1), (0, b2, f2, s2), (5, (b0 + 34), f3, s3), (12, b4, f4, s4)]) (h := h) [(2, (0, b2, f2, s2))] ho ⟨rfl, trivial⟩).1) (fun x hx => pX0_isSet_ok (h := xw [(11, b0, f0, s0), (7, (b0 + 8), f1, s1), (0, b2, f2, s2), (5, (b0 + 34), f3, s3), (12, b4, f4, s4)] h) (f0 := f2) (xok_sub ho [2] rfl (by decide)) s2 a0 x hx) rfl (fun x1 _ => ?_)
  refine s_if_eqB (tgt := 36) (pc := 15) dX11_ahead_15 (by decide) (fun _ => ?_) (fun _ => ?_)
  · refine s_aload (pc := 18) 0 dX11_ahead_18 rfl ?_
    refine s_iload_n (pc := 20) 3 dX11_ahead_20 rfl ?_
    refine x_callV (M := MX11_ahead) (L := [(11, b0, f0, s0), (7, (b0 + 8), f1, s1), (0, b2, f2, s2), (5, (b0 + 34), f3, s3), (12, b4, f4, s4)]) (h := h) (j := 2) (As := [.int a1]) (st := []) (A := fun (x : Bool) => some (.int (b2i x))) (Lc := [(0, b2, f2, s2)]) (Lr := fun (x : Bool) => [(0, b2, f2, s2)]) (L2 := fun (x : Bool) => [(11, b0, f0, s0), (7, (b0 + 8), f1, s1), (0, b2, f2, s2), (5, (b0 + 34), f3, s3), (12, b4, f4, s4)]) cv_X11_212 (by decide) (pc := 21) dX11_ahead_21 ho rfl xc0_0 rfl rfl (Nat.le_of_ble_eq_true rfl) (xovs (L := [(11, b0, f0, s0), (7, (b0 + 8), f1, s1), (0, b2, f2, s2), (5, (b0 + 34), f3, s3), (12, b4, f4, s4)]) (h := h) [(2, (0, b2, f2, s2))] ho ⟨rfl, trivial⟩).1 (fun x => (xovs (L := [(11, b0, f0, s0), (7, (b0 + 8), f1, s1), (0, b2, f2, s2), (5, (b0 + 34), f3, s3), (12, b4, f4, s4)]) (h := h) [(2, (0, b2, f2, s2))] ho ⟨rfl, trivial⟩).1) (fun x hx => pX0_isChange_ok (h := xw [(11, b0, f0, s0), (7, (b0 + 8), f1, s1), (0, b2, f2, s2), (5, (b0 + 34), f3, s3), (12, b4, f4, s4)] h) (f0 := f2) (xok_sub ho [2] rfl (by decide)) s2 a1 x hx) rfl (fun x2 _ => ?_)
    refine s_if_eqB (tgt := 36) (pc := 24) dX11_ahead_24 (by decide) (fun _ => ?_) (fun _ => ?_)
    · refine s_aload (pc := 27) 0 dX11_ahead_27 rfl ?_
      refine s_iload_n (pc := 29) 4 dX11_ahead_29 rfl ?_
      refine x_callV (M := MX11_ahead) (L := [(11, b0, f0, s0), (7, (b0 + 8), f1, s1), (0, b2, f2, s2), (5, (b0 + 34), f3, s3), (12, b4, f4, s4)]) (h := h) (j := 2) (As := [.int a2]) (st := []) (A := fun (x : Bool) => some (.int (b2i x))) (Lc := [(0, b2, f2, s2)]) (Lr := fun (x : Bool) => [(0, b2, f2, s2)]) (L2 := fun (x : Bool) => [(11, b0, f0, s0), (7, (b0 + 8), f1, s1), (0, b2, f2, s2), (5, (b0 + 34), f3, s3), (12, b4, f4, s4)]) cv_X11_212 (by decide) (pc := 30) dX11_ahead_30 ho rfl xc0_0 rfl rfl (Nat.le_of_ble_eq_true rfl) (xovs (L := [(11, b0, f0, s0), (7, (b0 + 8), f1, s1), (0, b2, f2, s2), (5, (b0 + 34), f3, s3), (12, b4, f4, s4)]) (h := h) [(2, (0, b2, f2, s2))] ho ⟨rfl, trivial⟩).1 (fun x => (xovs (L := [(11, b0, f0, s0), (7, (b0 + 8), f1, s1), (0, b2, f2, s2), (5, (b0 + 34), f3, s3), (12, b4, f4, s4)]) (h := h) [(2, (0, b2, f2, s2))] ho ⟨rfl, trivial⟩).1) (fun x hx => pX0_isChange_ok (h := xw [(11, b0, f0, s0), (7, (b0 + 8), f1, s1), (0, b2, f2, s2), (5, (b0 + 34), f3, s3), (12, b4, f4, s4)] h) (f0 := f2) (xok_sub ho [2] rfl (by decide)) s2 a2 x hx) rfl (fun x3 _ => ?_)
      refine s_if_neB (tgt := 42) (pc := 33) dX11_ahead_33 (by decide) (fun _ => ?_) (fun _ => ?_)
      · refine s_iload_n (pc := 42) 3 dX11_ahead_42 rfl ?_
        refine s_iload_n (pc := 43) 4 dX11_ahead_43 rfl ?_
        refine s_icmp_eq (tgt := 63) (pc := 44) dX11_ahead_44 (by decide) (fun _ => ?_) (fun _ => ?_)
        · exact fun z hz => by cases hz
        · refine s_iload_n (pc := 47) 2 dX11_ahead_47 rfl ?_
          refine s_iload_n (pc := 48) 3 dX11_ahead_48 rfl ?_
          refine s_callS (M := MX11_ahead) (As := [.int a0, .int a1]) (st := []) (Ψ := fun (x : Bool) => (some (.int (b2i x)), xw [(11, b0, f0, s0), (7, (b0 + 8), f1, s1), (0, b2, f2, s2), (5, (b0 + 34), f3, s3), (12, b4, f4, s4)] h)) cs_X11_305 (by decide) (pc := 49) dX11_ahead_49 rfl (Nat.le_of_ble_eq_true rfl) (fun x hx => pX0_isIn_ok a0 a1 x hx) rfl (fun x4 _ => ?_)
          refine s_if_eqB (tgt := 63) (pc := 52) dX11_ahead_52 (by decide) (fun _ => ?_) (fun _ => ?_)
          · refine s_iload_n (pc := 55) 2 dX11_ahead_55 rfl ?_
            refine s_iload_n (pc := 56) 4 dX11_ahead_56 rfl ?_
            refine s_callS (M := MX11_ahead) (As := [.int a0, .int a2]) (st := []) (Ψ := fun (x : Bool) => (some (.int (b2i x)), xw [(11, b0, f0, s0), (7, (b0 + 8), f1, s1), (0, b2, f2, s2), (5, (b0 + 34), f3, s3), (12, b4, f4, s4)] h)) cs_X11_305 (by decide) (pc := 57) dX11_ahead_57 rfl (Nat.le_of_ble_eq_true rfl) (fun x hx => pX0_isIn_ok a0 a2 x hx) rfl (fun x5 _ => ?_)
            refine s_if_neB (tgt := 69) (pc := 60) dX11_ahead_60 (by decide) (fun _ => ?_) (fun _ => ?_)
            · refine s_aload (pc := 69) 0 dX11_ahead_69 rfl ?_
              refine s_iload_n (pc := 71) 2 dX11_ahead_71 rfl ?_
              refine x_callV (M := MX11_ahead) (L := [(11, b0, f0, s0), (7, (b0 + 8), f1, s1), (0, b2, f2, s2), (5, (b0 + 34), f3, s3), (12, b4, f4, s4)]) (h := h) (j := 2) (As := [.int a0]) (st := []) (A := fun (x : Bool) => some (.int (b2i x))) (Lc := [(0, b2, f2, s2)]) (Lr := fun (x : Bool) => [(0, b2, f2, s2)]) (L2 := fun (x : Bool) => [(11, b0, f0, s0), (7, (b0 + 8), f1, s1), (0, b2, f2, s2), (5, (b0 + 34), f3, s3), (12, b4, f4, s4)]) cv_X11_244 (by decide) (pc := 72) dX11_ahead_72 ho rfl xc0_0 rfl rfl (Nat.le_of_ble_eq_true rfl) (xovs (L := [(11, b0, f0, s0), (7, (b0 + 8), f1, s1), (0, b2, f2, s2), (5, (b0 + 34), f3, s3), (12, b4, f4, s4)]) (h := h) [(2, (0, b2, f2, s2))] ho ⟨rfl, trivial⟩).1 (fun x => (xovs (L := [(11, b0, f0, s0), (7, (b0 + 8), f1, s1), (0, b2, f2, s2), (5, (b0 + 34), f3, s3), (12, b4, f4, s4)]) (h := h) [(2, (0, b2, f2, s2))] ho ⟨rfl, trivial⟩).1) (fun x hx => pX0_isClosed_ok (h := xw [(11, b0, f0, s0), (7, (b0 + 8), f1, s1), (0, b2, f2, s2), (5, (b0 + 34), f3, s3), (12, b4, f4, s4)] h) (f0 := f2) (xok_sub ho [2] rfl (by decide)) s2 a0 x hx) rfl (fun x6 _ => ?_)
              refine s_if_neB (tgt := 85) (pc := 75) dX11_ahead_75 (by decide) (fun _ => ?_) (fun _ => ?_)
              · refine s_aload_n (pc := 85) 1 dX11_ahead_85 rfl ?_
                refine s_aload_n (pc := 86) 1 dX11_ahead_86 rfl ?_
                refine xg_X11_46 0 ho rfl (pc := 87) dX11_ahead_87 rfl ?_
                refine s_aload (pc := 90) 0 dX11_ahead_90 rfl ?_
                refine s_iload_n (pc := 92) 2 dX11_ahead_92 rfl ?_
                refine s_iload_n (pc := 93) 3 dX11_ahead_93 rfl ?_
                refine s_iload_n (pc := 94) 4 dX11_ahead_94 rfl ?_
                refine s_sub [1, 2, 0] rfl ?_
                exact s_ev (fun _ _ q => q)
              · exact fun z hz => by cases hz
            · exact fun z hz => by cases hz
          · exact fun z hz => by cases hz
      · exact fun z hz => by cases hz
    · exact fun z hz => by cases hz
  · exact fun z hz => by cases hz
end
section
variable {l : Launch} {n0 S0 : Nat} {h : aH} {b0 b2 b4 : Nat} {f0 f1 f2 f3 f4 : Nat → Option Nat}
def pX11_aheadGt (s0 : RS) (s1 : RS) (s2 : RS) (s3 : RS) (s4 : RS) (v1 : Int32) (k1 : Int64) : Option (Bool × RS × RS × RS) :=
  (pX5_countOrdersF s3 s2 s4 v1).bind fun x1 =>
  (pX11_tellFraction s0 k1 x1.1).bind fun x2 =>
  (pX11_grant x2).bind fun x3 =>
  some (x3.1, x3.2, x1.2.1, x1.2.2)
theorem pX11_aheadGt_w (ho : xok [(11, b0), (7, (b0 + 8)), (0, b2), (5, (b0 + 34)), (12, b4)] h.2.1) (hq_1_0 : f1 0 = some b2) (hq_3_0 : f3 0 = some b2) (hq_3_5 : f3 5 = some b4) (s0 : RS) (s1 : RS) (s2 : RS) (s3 : RS) (s4 : RS) (v1 : Int32) (k1 : Int64) : aS l 64 MX11_ahead n0 S0 (oΦ (fun (x : Bool × RS × RS × RS) => ((some (.int (b2i x.1))), xw [(11, b0, f0, x.2.1), (7, (b0 + 8), f1, s1), (0, b2, f2, s2), (5, (b0 + 34), (va_up f3 0 (some b2)), x.2.2.1), (12, b4, f4, x.2.2.2)] h))) 98 [(0, .ref b0), (1, .int v1), (4, .ref b2)] [.long k1, .ref b0] (xw [(11, b0, f0, s0), (7, (b0 + 8), f1, s1), (0, b2, f2, s2), (5, (b0 + 34), f3, s3), (12, b4, f4, s4)] h) (pX11_aheadGt s0 s1 s2 s3 s4 v1 k1) := by
  unfold pX11_aheadGt
  refine s_aload_n (pc := 98) 0 dX11_ahead_98 rfl ?_
  refine xg_X11_46 0 ho rfl (pc := 99) dX11_ahead_99 rfl ?_
  refine s_aload (pc := 102) 2 dX11_ahead_102 rfl ?_
  refine s_iload_n (pc := 104) 1 dX11_ahead_104 rfl ?_
  refine x_callV (M := MX11_ahead) (L := [(11, b0, f0, s0), (7, (b0 + 8), f1, s1), (0, b2, f2, s2), (5, (b0 + 34), f3, s3), (12, b4, f4, s4)]) (h := h) (j := 3) (As := [.ref b2, .int v1]) (st := [.long k1, .ref b0]) (A := fun (x : Int64 × RS × RS) => some (.long x.1)) (Lc := [(5, (b0 + 34), f3, s3), (0, b2, f2, s2), (12, b4, f4, s4)]) (Lr := fun (x : Int64 × RS × RS) => [(5, (b0 + 34), (va_up f3 0 (some b2)), x.2.1), (0, b2, f2, s2), (12, b4, f4, x.2.2)]) (L2 := fun (x : Int64 × RS × RS) => [(11, b0, f0, s0), (7, (b0 + 8), f1, s1), (0, b2, f2, s2), (5, (b0 + 34), (va_up f3 0 (some b2)), x.2.1), (12, b4, f4, x.2.2)]) cv_X11_321 (by decide) (pc := 105) dX11_ahead_105 ho rfl xc0_5 rfl rfl (Nat.le_of_ble_eq_true rfl) (xovs (L := [(11, b0, f0, s0), (7, (b0 + 8), f1, s1), (0, b2, f2, s2), (5, (b0 + 34), f3, s3), (12, b4, f4, s4)]) (h := h) [(3, (5, (b0 + 34), f3, s3)), (2, (0, b2, f2, s2)), (4, (12, b4, f4, s4))] ho ⟨rfl, rfl, rfl, trivial⟩).1 (fun x => (xovs (L := [(11, b0, f0, s0), (7, (b0 + 8), f1, s1), (0, b2, f2, s2), (5, (b0 + 34), f3, s3), (12, b4, f4, s4)]) (h := h) [(3, (5, (b0 + 34), (va_up f3 0 (some b2)), x.2.1)), (2, (0, b2, f2, s2)), (4, (12, b4, f4, x.2.2))] ho ⟨rfl, rfl, rfl, trivial⟩).1) (fun x hx => pX5_countOrdersF_ok (h := xw [(11, b0, f0, s0), (7, (b0 + 8), f1, s1), (0, b2, f2, s2), (5, (b0 + 34), f3, s3), (12, b4, f4, s4)] h) (f0 := f3) (f1 := f2) (f2 := f4) (xok_sub ho [3, 2, 4] rfl (by decide)) hq_3_5 s3 s2 s4 v1 x hx) rfl (fun x1 _ => ?_)
  refine x_callV (M := MX11_ahead) (L := [(11, b0, f0, s0), (7, (b0 + 8), f1, s1), (0, b2, f2, s2), (5, (b0 + 34), (va_up f3 0 (some b2)), x1.2.1), (12, b4, f4, x1.2.2)]) (h := h) (j := 0) (As := [.long k1, .long x1.1]) (st := []) (A := fun (x : RS) => none) (Lc := [(11, b0, f0, s0)]) (Lr := fun (x : RS) => [(11, b0, f0, x)]) (L2 := fun (x : RS) => [(11, b0, f0, x), (7, (b0 + 8), f1, s1), (0, b2, f2, s2), (5, (b0 + 34), (va_up f3 0 (some b2)), x1.2.1), (12, b4, f4, x1.2.2)]) cv_X11_329 (by decide) (pc := 108) dX11_ahead_108 ho rfl xc0_11 rfl rfl (Nat.le_of_ble_eq_true rfl) (xovs (L := [(11, b0, f0, s0), (7, (b0 + 8), f1, s1), (0, b2, f2, s2), (5, (b0 + 34), (va_up f3 0 (some b2)), x1.2.1), (12, b4, f4, x1.2.2)]) (h := h) [(0, (11, b0, f0, s0))] ho ⟨rfl, trivial⟩).1 (fun x => (xovs (L := [(11, b0, f0, s0), (7, (b0 + 8), f1, s1), (0, b2, f2, s2), (5, (b0 + 34), (va_up f3 0 (some b2)), x1.2.1), (12, b4, f4, x1.2.2)]) (h := h) [(0, (11, b0, f0, x))] ho ⟨rfl, trivial⟩).1) (fun x hx => pX11_tellFraction_ok (h := xw [(11, b0, f0, s0), (7, (b0 + 8), f1, s1), (0, b2, f2, s2), (5, (b0 + 34), (va_up f3 0 (some b2)), x1.2.1), (12, b4, f4, x1.2.2)] h) (f0 := f0) (xok_sub ho [0] rfl (by decide)) s0 k1 x1.1 x hx) rfl (fun x2 _ => ?_)
  refine s_aload_n (pc := 111) 0 dX11_ahead_111 rfl ?_
  refine x_callV (M := MX11_ahead) (L := [(11, b0, f0, x2), (7, (b0 + 8), f1, s1), (0, b2, f2, s2), (5, (b0 + 34), (va_up f3 0 (some b2)), x1.2.1), (12, b4, f4, x1.2.2)]) (h := h) (j := 0) (As := []) (st := []) (A := fun (x : Bool × RS) => some (.int (b2i x.1))) (Lc := [(11, b0, f0, x2)]) (Lr := fun (x : Bool × RS) => [(11, b0, f0, x.2)]) (L2 := fun (x : Bool × RS) => [(11, b0, f0, x.2), (7, (b0 + 8), f1, s1), (0, b2, f2, s2), (5, (b0 + 34), (va_up f3 0 (some b2)), x1.2.1), (12, b4, f4, x1.2.2)]) cv_X11_102 (by decide) (pc := 112) dX11_ahead_112 ho rfl xc0_11 rfl rfl (Nat.le_of_ble_eq_true rfl) (xovs (L := [(11, b0, f0, x2), (7, (b0 + 8), f1, s1), (0, b2, f2, s2), (5, (b0 + 34), (va_up f3 0 (some b2)), x1.2.1), (12, b4, f4, x1.2.2)]) (h := h) [(0, (11, b0, f0, x2))] ho ⟨rfl, trivial⟩).1 (fun x => (xovs (L := [(11, b0, f0, x2), (7, (b0 + 8), f1, s1), (0, b2, f2, s2), (5, (b0 + 34), (va_up f3 0 (some b2)), x1.2.1), (12, b4, f4, x1.2.2)]) (h := h) [(0, (11, b0, f0, x.2))] ho ⟨rfl, trivial⟩).1) (fun x hx => pX11_grant_ok (h := xw [(11, b0, f0, x2), (7, (b0 + 8), f1, s1), (0, b2, f2, s2), (5, (b0 + 34), (va_up f3 0 (some b2)), x1.2.1), (12, b4, f4, x1.2.2)] h) (f0 := f0) (xok_sub ho [0] rfl (by decide)) x2 x hx) rfl (fun x3 _ => ?_)
  exact s_zretB (b := x3.1) (pc := 115) dX11_ahead_115 rfl (fun _ _ q => q)
end
section
variable {l : Launch} {n0 S0 : Nat} {h : aH} {b0 b2 b4 : Nat} {f0 f1 f2 f3 f4 : Nat → Option Nat}
abbrev MX11_ordered : aM := (cX11_ordered, RX11, 5, (some .int), false)
def X11_orderedF_j45 (s0 : RS) (s1 : RS) (s2 : RS) (s3 : RS) (s4 : RS) (b0 : Nat) (b2 : Nat) (b4 : Nat) (f3 : Nat → Option Nat) : Option (Int32 × RS × RS × RS × RS × (Nat → Option Nat)) :=
  (pX11_refuse s0 (5 : Int32)).bind fun x2 =>
  some (x2.1, x2.2, s1, s3, s4, f3)
theorem X11_orderedF_j45_ok (ho : xok [(11, b0), (7, (b0 + 8)), (0, b2), (5, (b0 + 34)), (12, b4)] h.2.1) (hq_1_0 : f1 0 = some b2) (hq_3_5 : f3 5 = some b4) (s0 : RS) (s1 : RS) (s2 : RS) (s3 : RS) (s4 : RS) : aS l 63 MX11_ordered n0 S0 (oΦ (fun (x : Int32 × RS × RS × RS × RS × (Nat → Option Nat)) => ((some (.int x.1)), xw [(11, b0, f0, x.2.1), (7, (b0 + 8), f1, x.2.2.1), (0, b2, f2, s2), (5, (b0 + 34), x.2.2.2.2.2, x.2.2.2.1), (12, b4, f4, x.2.2.2.2.1)] h))) 45 [(0, .ref b0)] [] (xw [(11, b0, f0, s0), (7, (b0 + 8), f1, s1), (0, b2, f2, s2), (5, (b0 + 34), f3, s3), (12, b4, f4, s4)] h) (X11_orderedF_j45 s0 s1 s2 s3 s4 b0 b2 b4 f3) := by
  unfold X11_orderedF_j45
  refine s_aload_n (pc := 45) 0 dX11_ordered_45 rfl ?_
  refine s_iconst (v := 5) (pc := 46) dX11_ordered_46 (by decide) ?_
  refine x_callV (M := MX11_ordered) (L := [(11, b0, f0, s0), (7, (b0 + 8), f1, s1), (0, b2, f2, s2), (5, (b0 + 34), f3, s3), (12, b4, f4, s4)]) (h := h) (j := 0) (As := [.int 5]) (st := []) (A := fun (x : Int32 × RS) => some (.int x.1)) (Lc := [(11, b0, f0, s0)]) (Lr := fun (x : Int32 × RS) => [(11, b0, f0, x.2)]) (L2 := fun (x : Int32 × RS) => [(11, b0, f0, x.2), (7, (b0 + 8), f1, s1), (0, b2, f2, s2), (5, (b0 + 34), f3, s3), (12, b4, f4, s4)]) cv_X11_113 (by decide) (pc := 47) dX11_ordered_47 ho rfl xc0_11 rfl rfl (Nat.le_of_ble_eq_true rfl) (xovs (L := [(11, b0, f0, s0), (7, (b0 + 8), f1, s1), (0, b2, f2, s2), (5, (b0 + 34), f3, s3), (12, b4, f4, s4)]) (h := h) [(0, (11, b0, f0, s0))] ho ⟨rfl, trivial⟩).1 (fun x => (xovs (L := [(11, b0, f0, s0), (7, (b0 + 8), f1, s1), (0, b2, f2, s2), (5, (b0 + 34), f3, s3), (12, b4, f4, s4)]) (h := h) [(0, (11, b0, f0, x.2))] ho ⟨rfl, trivial⟩).1) (fun x hx => pX11_refuse_ok (h := xw [(11, b0, f0, s0), (7, (b0 + 8), f1, s1), (0, b2, f2, s2), (5, (b0 + 34), f3, s3), (12, b4, f4, s4)] h) (f0 := f0) (xok_sub ho [0] rfl (by decide)) s0 (5 : Int32) x hx) rfl (fun x2 _ => ?_)
  exact s_iret (pc := 50) dX11_ordered_50 rfl (fun _ _ q => q)
def pX11_orderedF (s0 : RS) (s1 : RS) (s2 : RS) (s3 : RS) (s4 : RS) (b0 : Nat) (b2 : Nat) (b4 : Nat) (f3 : Nat → Option Nat) (a0 : Int32) (a1 : Int64) : Option (Int32 × RS × RS × RS × RS × (Nat → Option Nat)) :=
  (pX11_faultOfSet s0 s1 s2 a0).bind fun x1 =>
  if x1 = 0 then
    if a1 < (0 : Int64) then
      X11_orderedF_j45 s0 s1 s2 s3 s4 b0 b2 b4 f3
    else
      (pX5_countOrdersF s3 s2 s4 a0).bind fun x3 =>
      if a1 < x3.1 then
        (pX5_writeOrder x3.2.1 s2 x3.2.2 s1 a1).bind fun x4 =>
        thn (uI x4.2.2 4 x4.1) fun s_5 =>
        (pX11_tell s0 (s_5.1 4)).bind fun x6 =>
        some (x6.1, x6.2, s_5, x3.2.1, x4.2.1, (va_up f3 0 (some b2)))
      else
        X11_orderedF_j45 s0 s1 s2 x3.2.1 x3.2.2 b0 b2 b4 (va_up f3 0 (some b2))
  else
    (pX11_refuse s0 x1).bind fun x7 =>
    some (x7.1, x7.2, s1, s3, s4, f3)
theorem pX11_orderedF_w (ho : xok [(11, b0), (7, (b0 + 8)), (0, b2), (5, (b0 + 34)), (12, b4)] h.2.1) (hq_1_0 : f1 0 = some b2) (hq_3_5 : f3 5 = some b4) (s0 : RS) (s1 : RS) (s2 : RS) (s3 : RS) (s4 : RS) (a0 : Int32) (a1 : Int64) : aS l 63 MX11_ordered n0 S0 (oΦ (fun (x : Int32 × RS × RS × RS × RS × (Nat → Option Nat)) => ((some (.int x.1)), xw [(11, b0, f0, x.2.1), (7, (b0 + 8), f1, x.2.2.1), (0, b2, f2, s2), (5, (b0 + 34), x.2.2.2.2.2, x.2.2.2.1), (12, b4, f4, x.2.2.2.2.1)] h))) 0 [(0, .ref b0), (1, .int a0), (2, .long a1)] [] (xw [(11, b0, f0, s0), (7, (b0 + 8), f1, s1), (0, b2, f2, s2), (5, (b0 + 34), f3, s3), (12, b4, f4, s4)] h) (pX11_orderedF s0 s1 s2 s3 s4 b0 b2 b4 f3 a0 a1) := by
  unfold pX11_orderedF
  refine s_aload_n (pc := 0) 0 dX11_ordered_0 rfl ?_
  refine s_iload_n (pc := 1) 1 dX11_ordered_1 rfl ?_
  refine x_callV (M := MX11_ordered) (L := [(11, b0, f0, s0), (7, (b0 + 8), f1, s1), (0, b2, f2, s2), (5, (b0 + 34), f3, s3), (12, b4, f4, s4)]) (h := h) (j := 0) (As := [.int a0]) (st := []) (A := fun (x : Int32) => some (.int x)) (Lc := [(11, b0, f0, s0), (7, (b0 + 8), f1, s1), (0, b2, f2, s2)]) (Lr := fun (x : Int32) => [(11, b0, f0, s0), (7, (b0 + 8), f1, s1), (0, b2, f2, s2)]) (L2 := fun (x : Int32) => [(11, b0, f0, s0), (7, (b0 + 8), f1, s1), (0, b2, f2, s2), (5, (b0 + 34), f3, s3), (12, b4, f4, s4)]) cv_X11_262 (by decide) (pc := 2) dX11_ordered_2 ho rfl xc0_11 rfl rfl (Nat.le_of_ble_eq_true rfl) (xovs (L := [(11, b0, f0, s0), (7, (b0 + 8), f1, s1), (0, b2, f2, s2), (5, (b0 + 34), f3, s3), (12, b4, f4, s4)]) (h := h) [(0, (11, b0, f0, s0)), (1, (7, (b0 + 8), f1, s1)), (2, (0, b2, f2, s2))] ho ⟨rfl, rfl, rfl, trivial⟩).1 (fun x => (xovs (L := [(11, b0, f0, s0), (7, (b0 + 8), f1, s1), (0, b2, f2, s2), (5, (b0 + 34), f3, s3), (12, b4, f4, s4)]) (h := h) [(0, (11, b0, f0, s0)), (1, (7, (b0 + 8), f1, s1)), (2, (0, b2, f2, s2))] ho ⟨rfl, rfl, rfl, trivial⟩).1) (fun x hx => pX11_faultOfSet_ok (h := xw [(11, b0, f0, s0), (7, (b0 + 8), f1, s1), (0, b2, f2, s2), (5, (b0 + 34), f3, s3), (12, b4, f4, s4)] h) (f0 := f0) (f1 := f1) (f2 := f2) (xok_sub ho [0, 1, 2] rfl (by decide)) hq_1_0 s0 s1 s2 a0 x hx) rfl (fun x1 _ => ?_)
  refine s_istore (lv' := [(4, .int x1), (0, .ref b0), (1, .int a0), (2, .long a1)]) (pc := 5) dX11_ordered_5 (by decide) rfl ?_
  refine s_iload (pc := 7) 0 dX11_ordered_7 rfl ?_
  refine s_if_eq (tgt := 19) (pc := 9) dX11_ordered_9 (by decide) (fun _ => ?_) (fun _ => ?_)
  · refine s_lload_n (pc := 19) 3 dX11_ordered_19 rfl ?_
    refine s_lconst (v := 0) (pc := 20) dX11_ordered_20 (by decide) ?_
    refine s_lcmp (pc := 21) dX11_ordered_21 ?_
    refine s_ifL (lg_cmp_lt _ _) (s_if_lt (tgt := 45) (pc := 22) dX11_ordered_22 (by decide) (fun _ => ?_) (fun _ => ?_))
    · refine s_sub [1] rfl ?_
      exact X11_orderedF_j45_ok ho hq_1_0 hq_3_5 s0 s1 s2 s3 s4
    · refine s_lload_n (pc := 25) 3 dX11_ordered_25 rfl ?_
      refine s_aload_n (pc := 26) 1 dX11_ordered_26 rfl ?_
      refine xg_X11_46 0 ho rfl (pc := 27) dX11_ordered_27 rfl ?_
      refine s_aload_n (pc := 30) 1 dX11_ordered_30 rfl ?_
      refine xg_X11_25 0 ho rfl (pc := 31) dX11_ordered_31 rfl ?_
      refine xg_X11_174 1 ho rfl (pc := 34) dX11_ordered_34 rfl hq_1_0 ?_
      refine s_iload_n (pc := 37) 2 dX11_ordered_37 rfl ?_
      refine x_callV (M := MX11_ordered) (L := [(11, b0, f0, s0), (7, (b0 + 8), f1, s1), (0, b2, f2, s2), (5, (b0 + 34), f3, s3), (12, b4, f4, s4)]) (h := h) (j := 3) (As := [.ref b2, .int a0]) (st := [.long a1]) (A := fun (x : Int64 × RS × RS) => some (.long x.1)) (Lc := [(5, (b0 + 34), f3, s3), (0, b2, f2, s2), (12, b4, f4, s4)]) (Lr := fun (x : Int64 × RS × RS) => [(5, (b0 + 34), (va_up f3 0 (some b2)), x.2.1), (0, b2, f2, s2), (12, b4, f4, x.2.2)]) (L2 := fun (x : Int64 × RS × RS) => [(11, b0, f0, s0), (7, (b0 + 8), f1, s1), (0, b2, f2, s2), (5, (b0 + 34), (va_up f3 0 (some b2)), x.2.1), (12, b4, f4, x.2.2)]) cv_X11_321 (by decide) (pc := 38) dX11_ordered_38 ho rfl xc0_5 rfl rfl (Nat.le_of_ble_eq_true rfl) (xovs (L := [(11, b0, f0, s0), (7, (b0 + 8), f1, s1), (0, b2, f2, s2), (5, (b0 + 34), f3, s3), (12, b4, f4, s4)]) (h := h) [(3, (5, (b0 + 34), f3, s3)), (2, (0, b2, f2, s2)), (4, (12, b4, f4, s4))] ho ⟨rfl, rfl, rfl, trivial⟩).1 (fun x => (xovs (L := [(11, b0, f0, s0), (7, (b0 + 8), f1, s1), (0, b2, f2, s2), (5, (b0 + 34), f3, s3), (12, b4, f4, s4)]) (h := h) [(3, (5, (b0 + 34), (va_up f3 0 (some b2)), x.2.1)), (2, (0, b2, f2, s2)), (4, (12, b4, f4, x.2.2))] ho ⟨rfl, rfl, rfl, trivial⟩).1) (fun x hx => pX5_countOrdersF_ok (h := xw [(11, b0, f0, s0), (7, (b0 + 8), f1, s1), (0, b2, f2, s2), (5, (b0 + 34), f3, s3), (12, b4, f4, s4)] h) (f0 := f3) (f1 := f2) (f2 := f4) (xok_sub ho [3, 2, 4] rfl (by decide)) hq_3_5 s3 s2 s4 a0 x hx) rfl (fun x3 _ => ?_)
      refine s_lcmp (pc := 41) dX11_ordered_41 ?_
      refine s_ifL (lg_cmp_lt _ _) (s_if_lt (tgt := 51) (pc := 42) dX11_ordered_42 (by decide) (fun _ => ?_) (fun _ => ?_))
      · refine s_aload_n (pc := 51) 1 dX11_ordered_51 rfl ?_
        refine xg_X11_25 0 ho rfl (pc := 52) dX11_ordered_52 rfl ?_
        refine s_aload_n (pc := 55) 1 dX11_ordered_55 rfl ?_
        refine xg_X11_46 0 ho rfl (pc := 56) dX11_ordered_56 rfl ?_
        refine s_lload_n (pc := 59) 3 dX11_ordered_59 rfl ?_
        refine s_aload_n (pc := 60) 1 dX11_ordered_60 rfl ?_
        refine xg_X11_25 0 ho rfl (pc := 61) dX11_ordered_61 rfl ?_
        refine xg_X11_337 1 ho rfl (pc := 64) dX11_ordered_64 rfl ?_
        refine x_callV (M := MX11_ordered) (L := [(11, b0, f0, s0), (7, (b0 + 8), f1, s1), (0, b2, f2, s2), (5, (b0 + 34), (va_up f3 0 (some b2)), x3.2.1), (12, b4, f4, x3.2.2)]) (h := h) (j := 3) (As := [.long a1, .ref ((b0 + 8) + 16)]) (st := [.ref (b0 + 8)]) (A := fun (x : Int32 × RS × RS) => some (.int x.1)) (Lc := [(5, (b0 + 34), (va_up f3 0 (some b2)), x3.2.1), (0, b2, f2, s2), (12, b4, f4, x3.2.2), (7, (b0 + 8), f1, s1)]) (Lr := fun (x : Int32 × RS × RS) => [(5, (b0 + 34), (va_up f3 0 (some b2)), x3.2.1), (0, b2, f2, s2), (12, b4, f4, x.2.1), (7, (b0 + 8), f1, x.2.2)]) (L2 := fun (x : Int32 × RS × RS) => [(11, b0, f0, s0), (7, (b0 + 8), f1, x.2.2), (0, b2, f2, s2), (5, (b0 + 34), (va_up f3 0 (some b2)), x3.2.1), (12, b4, f4, x.2.1)]) cv_X11_340 (by decide) (pc := 67) dX11_ordered_67 ho rfl xc0_5 rfl rfl (Nat.le_of_ble_eq_true rfl) (xovs (L := [(11, b0, f0, s0), (7, (b0 + 8), f1, s1), (0, b2, f2, s2), (5, (b0 + 34), (va_up f3 0 (some b2)), x3.2.1), (12, b4, f4, x3.2.2)]) (h := h) [(3, (5, (b0 + 34), (va_up f3 0 (some b2)), x3.2.1)), (2, (0, b2, f2, s2)), (4, (12, b4, f4, x3.2.2)), (1, (7, (b0 + 8), f1, s1))] ho ⟨rfl, rfl, rfl, rfl, trivial⟩).1 (fun x => (xovs (L := [(11, b0, f0, s0), (7, (b0 + 8), f1, s1), (0, b2, f2, s2), (5, (b0 + 34), (va_up f3 0 (some b2)), x3.2.1), (12, b4, f4, x3.2.2)]) (h := h) [(3, (5, (b0 + 34), (va_up f3 0 (some b2)), x3.2.1)), (2, (0, b2, f2, s2)), (4, (12, b4, f4, x.2.1)), (1, (7, (b0 + 8), f1, x.2.2))] ho ⟨rfl, rfl, rfl, rfl, trivial⟩).1) (fun x hx => pX5_writeOrder_ok (h := xw [(11, b0, f0, s0), (7, (b0 + 8), f1, s1), (0, b2, f2, s2), (5, (b0 + 34), (va_up f3 0 (some b2)), x3.2.1), (12, b4, f4, x3.2.2)] h) (f0 := (va_up f3 0 (some b2))) (f1 := f2) (f2 := f4) (f3 := f1) (xok_sub ho [3, 2, 4, 1] rfl (by decide)) rfl hq_3_5 x3.2.1 s2 x3.2.2 s1 a1 x hx) rfl (fun x4 _ => ?_)
        refine xp_X11_344 (L' := fun s_5 => [(11, b0, f0, s0), (7, (b0 + 8), f1, s_5), (0, b2, f2, s2), (5, (b0 + 34), (va_up f3 0 (some b2)), x3.2.1), (12, b4, f4, x4.2.1)]) 1 ho rfl (fun _ => rfl) (pc := 70) dX11_ordered_70 rfl (fun s_5 => ?_)
        refine s_aload_n (pc := 73) 1 dX11_ordered_73 rfl ?_
        refine s_aload_n (pc := 74) 1 dX11_ordered_74 rfl ?_
        refine xg_X11_25 0 ho rfl (pc := 75) dX11_ordered_75 rfl ?_
        refine xg_X11_344 1 ho rfl (pc := 78) dX11_ordered_78 rfl ?_
        refine x_callV (M := MX11_ordered) (L := [(11, b0, f0, s0), (7, (b0 + 8), f1, s_5), (0, b2, f2, s2), (5, (b0 + 34), (va_up f3 0 (some b2)), x3.2.1), (12, b4, f4, x4.2.1)]) (h := h) (j := 0) (As := [.int (s_5.1 4)]) (st := []) (A := fun (x : Int32 × RS) => some (.int x.1)) (Lc := [(11, b0, f0, s0)]) (Lr := fun (x : Int32 × RS) => [(11, b0, f0, x.2)]) (L2 := fun (x : Int32 × RS) => [(11, b0, f0, x.2), (7, (b0 + 8), f1, s_5), (0, b2, f2, s2), (5, (b0 + 34), (va_up f3 0 (some b2)), x3.2.1), (12, b4, f4, x4.2.1)]) cv_X11_169 (by decide) (pc := 81) dX11_ordered_81 ho rfl xc0_11 rfl rfl (Nat.le_of_ble_eq_true rfl) (xovs (L := [(11, b0, f0, s0), (7, (b0 + 8), f1, s_5), (0, b2, f2, s2), (5, (b0 + 34), (va_up f3 0 (some b2)), x3.2.1), (12, b4, f4, x4.2.1)]) (h := h) [(0, (11, b0, f0, s0))] ho ⟨rfl, trivial⟩).1 (fun x => (xovs (L := [(11, b0, f0, s0), (7, (b0 + 8), f1, s_5), (0, b2, f2, s2), (5, (b0 + 34), (va_up f3 0 (some b2)), x3.2.1), (12, b4, f4, x4.2.1)]) (h := h) [(0, (11, b0, f0, x.2))] ho ⟨rfl, trivial⟩).1) (fun x hx => pX11_tell_ok (h := xw [(11, b0, f0, s0), (7, (b0 + 8), f1, s_5), (0, b2, f2, s2), (5, (b0 + 34), (va_up f3 0 (some b2)), x3.2.1), (12, b4, f4, x4.2.1)] h) (f0 := f0) (xok_sub ho [0] rfl (by decide)) s0 (s_5.1 4) x hx) rfl (fun x6 _ => ?_)
        exact s_iret (pc := 84) dX11_ordered_84 rfl (fun _ _ q => q)
      · refine s_sub [1] rfl ?_
        exact X11_orderedF_j45_ok (f3 := (va_up f3 0 (some b2))) ho hq_1_0 hq_3_5 s0 s1 s2 x3.2.1 x3.2.2
  · refine s_aload_n (pc := 12) 1 dX11_ordered_12 rfl ?_
    refine s_iload (pc := 13) 0 dX11_ordered_13 rfl ?_
    refine x_callV (M := MX11_ordered) (L := [(11, b0, f0, s0), (7, (b0 + 8), f1, s1), (0, b2, f2, s2), (5, (b0 + 34), f3, s3), (12, b4, f4, s4)]) (h := h) (j := 0) (As := [.int x1]) (st := []) (A := fun (x : Int32 × RS) => some (.int x.1)) (Lc := [(11, b0, f0, s0)]) (Lr := fun (x : Int32 × RS) => [(11, b0, f0, x.2)]) (L2 := fun (x : Int32 × RS) => [(11, b0, f0, x.2), (7, (b0 + 8), f1, s1), (0, b2, f2, s2), (5, (b0 + 34), f3, s3), (12, b4, f4, s4)]) cv_X11_113 (by decide) (pc := 15) dX11_ordered_15 ho rfl xc0_11 rfl rfl (Nat.le_of_ble_eq_true rfl) (xovs (L := [(11, b0, f0, s0), (7, (b0 + 8), f1, s1), (0, b2, f2, s2), (5, (b0 + 34), f3, s3), (12, b4, f4, s4)]) (h := h) [(0, (11, b0, f0, s0))] ho ⟨rfl, trivial⟩).1 (fun x => (xovs (L := [(11, b0, f0, s0), (7, (b0 + 8), f1, s1), (0, b2, f2, s2), (5, (b0 + 34), f3, s3), (12, b4, f4, s4)]) (h := h) [(0, (11, b0, f0, x.2))] ho ⟨rfl, trivial⟩).1) (fun x hx => pX11_refuse_ok (h := xw [(11, b0, f0, s0), (7, (b0 + 8), f1, s1), (0, b2, f2, s2), (5, (b0 + 34), f3, s3), (12, b4, f4, s4)] h) (f0 := f0) (xok_sub ho [0] rfl (by decide)) s0 x1 x hx) rfl (fun x7 _ => ?_)
    exact s_iret (pc := 18) dX11_ordered_18 rfl (fun _ _ q => q)
theorem pX11_orderedF_ok (ho : xok [(11, b0), (7, (b0 + 8)), (0, b2), (5, (b0 + 34)), (12, b4)] h.2.1) (hq_1_0 : f1 0 = some b2) (hq_3_5 : f3 5 = some b4) (s0 : RS) (s1 : RS) (s2 : RS) (s3 : RS) (s4 : RS) (a0 : Int32) (a1 : Int64) : ∀ x, pX11_orderedF s0 s1 s2 s3 s4 b0 b2 b4 f3 a0 a1 = some x → aMet l 63 yX11_ordered cX11_ordered 5 (some .int) [.ref b0, .int a0, .long a1] (xw [(11, b0, f0, s0), (7, (b0 + 8), f1, s1), (0, b2, f2, s2), (5, (b0 + 34), f3, s3), (12, b4, f4, s4)] h) (some (.int x.1)) (xw [(11, b0, f0, x.2.1), (7, (b0 + 8), f1, x.2.2.1), (0, b2, f2, s2), (5, (b0 + 34), x.2.2.2.2.2, x.2.2.2.1), (12, b4, f4, x.2.2.2.2.1)] h) := fun x hx => a_meth (ini := false) (y := yX11_ordered) (by decide +kernel) (fun q => by cases q) (fun _ => Nat.le_of_ble_eq_true rfl) (pX11_orderedF_w ho hq_1_0 hq_3_5 s0 s1 s2 s3 s4 a0 a1) x hx _ _ ⟨rfl, rfl⟩
end
section
variable {l : Launch} {n0 S0 : Nat} {h : aH} {b0 b2 b4 : Nat} {f0 f1 f2 f3 f4 : Nat → Option Nat}
def pX11_orderedGh (s0 : RS) (s1 : RS) (s2 : RS) (s3 : RS) (s4 : RS) (a0 : Int32) (a1 : Int64) : Option (Int64 × Int64 × Int32) :=
  (pX11_faultOfSet s0 s1 s2 a0).bind fun x1 =>
  if x1 = 0 then
    if a1 < (0 : Int64) then
      none
    else
      some (a1, a1, a0)
  else
    none
theorem pX11_orderedGh_w (ho : xok [(11, b0), (7, (b0 + 8)), (0, b2), (5, (b0 + 34)), (12, b4)] h.2.1) (hq_1_0 : f1 0 = some b2) (hq_3_5 : f3 5 = some b4) (s0 : RS) (s1 : RS) (s2 : RS) (s3 : RS) (s4 : RS) (a0 : Int32) (a1 : Int64) : aS l 64 MX11_ordered n0 S0 (fun (x : Int64 × Int64 × Int32) r h' => aEv l 64 MX11_ordered n0 S0 38 [(0, .ref b0), (2, .long x.1)] [.int x.2.2, .ref b2, .ref (b0 + 34), .long x.2.1] (xw [(11, b0, f0, s0), (7, (b0 + 8), f1, s1), (0, b2, f2, s2), (5, (b0 + 34), f3, s3), (12, b4, f4, s4)] h) r h') 0 [(0, .ref b0), (1, .int a0), (2, .long a1)] [] (xw [(11, b0, f0, s0), (7, (b0 + 8), f1, s1), (0, b2, f2, s2), (5, (b0 + 34), f3, s3), (12, b4, f4, s4)] h) (pX11_orderedGh s0 s1 s2 s3 s4 a0 a1) := by
  unfold pX11_orderedGh
  refine s_aload_n (pc := 0) 0 dX11_ordered_0 rfl ?_
  refine s_iload_n (pc := 1) 1 dX11_ordered_1 rfl ?_
  refine x_callV (M := MX11_ordered) (L := [(11, b0, f0, s0), (7, (b0 + 8), f1, s1), (0, b2, f2, s2), (5, (b0 + 34), f3, s3), (12, b4, f4, s4)]) (h := h) (j := 0) (As := [.int a0]) (st := []) (A := fun (x : Int32) => some (.int x)) (Lc := [(11, b0, f0, s0), (7, (b0 + 8), f1, s1), (0, b2, f2, s2)]) (Lr := fun (x : Int32) => [(11, b0, f0, s0), (7, (b0 + 8), f1, s1), (0, b2, f2, s2)]) (L2 := fun (x : Int32) => [(11, b0, f0, s0), (7, (b0 + 8), f1, s1), (0, b2, f2, s2), (5, (b0 + 34), f3, s3), (12, b4, f4, s4)]) cv_X11_262 (by decide) (pc := 2) dX11_ordered_2 ho rfl xc0_11 rfl rfl (Nat.le_of_ble_eq_true rfl) (xovs (L := [(11, b0, f0, s0), (7, (b0 + 8), f1, s1), (0, b2, f2, s2), (5, (b0 + 34), f3, s3), (12, b4, f4, s4)]) (h := h) [(0, (11, b0, f0, s0)), (1, (7, (b0 + 8), f1, s1)), (2, (0, b2, f2, s2))] ho ⟨rfl, rfl, rfl, trivial⟩).1 (fun x => (xovs (L := [(11, b0, f0, s0), (7, (b0 + 8), f1, s1), (0, b2, f2, s2), (5, (b0 + 34), f3, s3), (12, b4, f4, s4)]) (h := h) [(0, (11, b0, f0, s0)), (1, (7, (b0 + 8), f1, s1)), (2, (0, b2, f2, s2))] ho ⟨rfl, rfl, rfl, trivial⟩).1) (fun x hx => pX11_faultOfSet_ok (h := xw [(11, b0, f0, s0), (7, (b0 + 8), f1, s1), (0, b2, f2, s2), (5, (b0 + 34), f3, s3), (12, b4, f4, s4)] h) (f0 := f0) (f1 := f1) (f2 := f2) (xok_sub ho [0, 1, 2] rfl (by decide)) hq_1_0 s0 s1 s2 a0 x hx) rfl (fun x1 _ => ?_)
  refine s_istore (lv' := [(4, .int x1), (0, .ref b0), (1, .int a0), (2, .long a1)]) (pc := 5) dX11_ordered_5 (by decide) rfl ?_
  refine s_iload (pc := 7) 0 dX11_ordered_7 rfl ?_
  refine s_if_eq (tgt := 19) (pc := 9) dX11_ordered_9 (by decide) (fun _ => ?_) (fun _ => ?_)
  · refine s_lload_n (pc := 19) 3 dX11_ordered_19 rfl ?_
    refine s_lconst (v := 0) (pc := 20) dX11_ordered_20 (by decide) ?_
    refine s_lcmp (pc := 21) dX11_ordered_21 ?_
    refine s_ifL (lg_cmp_lt _ _) (s_if_lt (tgt := 45) (pc := 22) dX11_ordered_22 (by decide) (fun _ => ?_) (fun _ => ?_))
    · exact fun z hz => by cases hz
    · refine s_lload_n (pc := 25) 3 dX11_ordered_25 rfl ?_
      refine s_aload_n (pc := 26) 1 dX11_ordered_26 rfl ?_
      refine xg_X11_46 0 ho rfl (pc := 27) dX11_ordered_27 rfl ?_
      refine s_aload_n (pc := 30) 1 dX11_ordered_30 rfl ?_
      refine xg_X11_25 0 ho rfl (pc := 31) dX11_ordered_31 rfl ?_
      refine xg_X11_174 1 ho rfl (pc := 34) dX11_ordered_34 rfl hq_1_0 ?_
      refine s_iload_n (pc := 37) 2 dX11_ordered_37 rfl ?_
      refine s_sub [1, 3] rfl ?_
      exact s_ev (fun _ _ q => q)
  · exact fun z hz => by cases hz
end
section
variable {l : Launch} {n0 S0 : Nat} {h : aH} {b0 b2 b4 : Nat} {f0 f1 f2 f3 f4 : Nat → Option Nat}
def pX11_orderedGt (s0 : RS) (s1 : RS) (s2 : RS) (s3 : RS) (s4 : RS) (v2 : Int64) (k0 : Int64) (k1 : Int64) : Option (Int32 × RS × RS × RS) :=
  if k0 < k1 then
    (pX5_writeOrder s3 s2 s4 s1 v2).bind fun x1 =>
    thn (uI x1.2.2 4 x1.1) fun s_2 =>
    (pX11_tell s0 (s_2.1 4)).bind fun x3 =>
    some (x3.1, x3.2, s_2, x1.2.1)
  else
    (pX11_refuse s0 (5 : Int32)).bind fun x4 =>
    some (x4.1, x4.2, s1, s4)
theorem pX11_orderedGt_w (ho : xok [(11, b0), (7, (b0 + 8)), (0, b2), (5, (b0 + 34)), (12, b4)] h.2.1) (hq_1_0 : f1 0 = some b2) (hq_3_0 : f3 0 = some b2) (hq_3_5 : f3 5 = some b4) (s0 : RS) (s1 : RS) (s2 : RS) (s3 : RS) (s4 : RS) (v2 : Int64) (k0 : Int64) (k1 : Int64) : aS l 64 MX11_ordered n0 S0 (oΦ (fun (x : Int32 × RS × RS × RS) => ((some (.int x.1)), xw [(11, b0, f0, x.2.1), (7, (b0 + 8), f1, x.2.2.1), (0, b2, f2, s2), (5, (b0 + 34), f3, s3), (12, b4, f4, x.2.2.2)] h))) 41 [(0, .ref b0), (2, .long v2)] [.long k1, .long k0] (xw [(11, b0, f0, s0), (7, (b0 + 8), f1, s1), (0, b2, f2, s2), (5, (b0 + 34), f3, s3), (12, b4, f4, s4)] h) (pX11_orderedGt s0 s1 s2 s3 s4 v2 k0 k1) := by
  unfold pX11_orderedGt
  refine s_lcmp (pc := 41) dX11_ordered_41 ?_
  refine s_ifL (lg_cmp_lt _ _) (s_if_lt (tgt := 51) (pc := 42) dX11_ordered_42 (by decide) (fun _ => ?_) (fun _ => ?_))
  · refine s_aload_n (pc := 51) 0 dX11_ordered_51 rfl ?_
    refine xg_X11_25 0 ho rfl (pc := 52) dX11_ordered_52 rfl ?_
    refine s_aload_n (pc := 55) 0 dX11_ordered_55 rfl ?_
    refine xg_X11_46 0 ho rfl (pc := 56) dX11_ordered_56 rfl ?_
    refine s_lload_n (pc := 59) 1 dX11_ordered_59 rfl ?_
    refine s_aload_n (pc := 60) 0 dX11_ordered_60 rfl ?_
    refine xg_X11_25 0 ho rfl (pc := 61) dX11_ordered_61 rfl ?_
    refine xg_X11_337 1 ho rfl (pc := 64) dX11_ordered_64 rfl ?_
    refine x_callV (M := MX11_ordered) (L := [(11, b0, f0, s0), (7, (b0 + 8), f1, s1), (0, b2, f2, s2), (5, (b0 + 34), f3, s3), (12, b4, f4, s4)]) (h := h) (j := 3) (As := [.long v2, .ref ((b0 + 8) + 16)]) (st := [.ref (b0 + 8)]) (A := fun (x : Int32 × RS × RS) => some (.int x.1)) (Lc := [(5, (b0 + 34), f3, s3), (0, b2, f2, s2), (12, b4, f4, s4), (7, (b0 + 8), f1, s1)]) (Lr := fun (x : Int32 × RS × RS) => [(5, (b0 + 34), f3, s3), (0, b2, f2, s2), (12, b4, f4, x.2.1), (7, (b0 + 8), f1, x.2.2)]) (L2 := fun (x : Int32 × RS × RS) => [(11, b0, f0, s0), (7, (b0 + 8), f1, x.2.2), (0, b2, f2, s2), (5, (b0 + 34), f3, s3), (12, b4, f4, x.2.1)]) cv_X11_340 (by decide) (pc := 67) dX11_ordered_67 ho rfl xc0_5 rfl rfl (Nat.le_of_ble_eq_true rfl) (xovs (L := [(11, b0, f0, s0), (7, (b0 + 8), f1, s1), (0, b2, f2, s2), (5, (b0 + 34), f3, s3), (12, b4, f4, s4)]) (h := h) [(3, (5, (b0 + 34), f3, s3)), (2, (0, b2, f2, s2)), (4, (12, b4, f4, s4)), (1, (7, (b0 + 8), f1, s1))] ho ⟨rfl, rfl, rfl, rfl, trivial⟩).1 (fun x => (xovs (L := [(11, b0, f0, s0), (7, (b0 + 8), f1, s1), (0, b2, f2, s2), (5, (b0 + 34), f3, s3), (12, b4, f4, s4)]) (h := h) [(3, (5, (b0 + 34), f3, s3)), (2, (0, b2, f2, s2)), (4, (12, b4, f4, x.2.1)), (1, (7, (b0 + 8), f1, x.2.2))] ho ⟨rfl, rfl, rfl, rfl, trivial⟩).1) (fun x hx => pX5_writeOrder_ok (h := xw [(11, b0, f0, s0), (7, (b0 + 8), f1, s1), (0, b2, f2, s2), (5, (b0 + 34), f3, s3), (12, b4, f4, s4)] h) (f0 := f3) (f1 := f2) (f2 := f4) (f3 := f1) (xok_sub ho [3, 2, 4, 1] rfl (by decide)) hq_3_0 hq_3_5 s3 s2 s4 s1 v2 x hx) rfl (fun x1 _ => ?_)
    refine xp_X11_344 (L' := fun s_2 => [(11, b0, f0, s0), (7, (b0 + 8), f1, s_2), (0, b2, f2, s2), (5, (b0 + 34), f3, s3), (12, b4, f4, x1.2.1)]) 1 ho rfl (fun _ => rfl) (pc := 70) dX11_ordered_70 rfl (fun s_2 => ?_)
    refine s_aload_n (pc := 73) 0 dX11_ordered_73 rfl ?_
    refine s_aload_n (pc := 74) 0 dX11_ordered_74 rfl ?_
    refine xg_X11_25 0 ho rfl (pc := 75) dX11_ordered_75 rfl ?_
    refine xg_X11_344 1 ho rfl (pc := 78) dX11_ordered_78 rfl ?_
    refine x_callV (M := MX11_ordered) (L := [(11, b0, f0, s0), (7, (b0 + 8), f1, s_2), (0, b2, f2, s2), (5, (b0 + 34), f3, s3), (12, b4, f4, x1.2.1)]) (h := h) (j := 0) (As := [.int (s_2.1 4)]) (st := []) (A := fun (x : Int32 × RS) => some (.int x.1)) (Lc := [(11, b0, f0, s0)]) (Lr := fun (x : Int32 × RS) => [(11, b0, f0, x.2)]) (L2 := fun (x : Int32 × RS) => [(11, b0, f0, x.2), (7, (b0 + 8), f1, s_2), (0, b2, f2, s2), (5, (b0 + 34), f3, s3), (12, b4, f4, x1.2.1)]) cv_X11_169 (by decide) (pc := 81) dX11_ordered_81 ho rfl xc0_11 rfl rfl (Nat.le_of_ble_eq_true rfl) (xovs (L := [(11, b0, f0, s0), (7, (b0 + 8), f1, s_2), (0, b2, f2, s2), (5, (b0 + 34), f3, s3), (12, b4, f4, x1.2.1)]) (h := h) [(0, (11, b0, f0, s0))] ho ⟨rfl, trivial⟩).1 (fun x => (xovs (L := [(11, b0, f0, s0), (7, (b0 + 8), f1, s_2), (0, b2, f2, s2), (5, (b0 + 34), f3, s3), (12, b4, f4, x1.2.1)]) (h := h) [(0, (11, b0, f0, x.2))] ho ⟨rfl, trivial⟩).1) (fun x hx => pX11_tell_ok (h := xw [(11, b0, f0, s0), (7, (b0 + 8), f1, s_2), (0, b2, f2, s2), (5, (b0 + 34), f3, s3), (12, b4, f4, x1.2.1)] h) (f0 := f0) (xok_sub ho [0] rfl (by decide)) s0 (s_2.1 4) x hx) rfl (fun x3 _ => ?_)
    exact s_iret (pc := 84) dX11_ordered_84 rfl (fun _ _ q => q)
  · refine s_aload_n (pc := 45) 0 dX11_ordered_45 rfl ?_
    refine s_iconst (v := 5) (pc := 46) dX11_ordered_46 (by decide) ?_
    refine x_callV (M := MX11_ordered) (L := [(11, b0, f0, s0), (7, (b0 + 8), f1, s1), (0, b2, f2, s2), (5, (b0 + 34), f3, s3), (12, b4, f4, s4)]) (h := h) (j := 0) (As := [.int 5]) (st := []) (A := fun (x : Int32 × RS) => some (.int x.1)) (Lc := [(11, b0, f0, s0)]) (Lr := fun (x : Int32 × RS) => [(11, b0, f0, x.2)]) (L2 := fun (x : Int32 × RS) => [(11, b0, f0, x.2), (7, (b0 + 8), f1, s1), (0, b2, f2, s2), (5, (b0 + 34), f3, s3), (12, b4, f4, s4)]) cv_X11_113 (by decide) (pc := 47) dX11_ordered_47 ho rfl xc0_11 rfl rfl (Nat.le_of_ble_eq_true rfl) (xovs (L := [(11, b0, f0, s0), (7, (b0 + 8), f1, s1), (0, b2, f2, s2), (5, (b0 + 34), f3, s3), (12, b4, f4, s4)]) (h := h) [(0, (11, b0, f0, s0))] ho ⟨rfl, trivial⟩).1 (fun x => (xovs (L := [(11, b0, f0, s0), (7, (b0 + 8), f1, s1), (0, b2, f2, s2), (5, (b0 + 34), f3, s3), (12, b4, f4, s4)]) (h := h) [(0, (11, b0, f0, x.2))] ho ⟨rfl, trivial⟩).1) (fun x hx => pX11_refuse_ok (h := xw [(11, b0, f0, s0), (7, (b0 + 8), f1, s1), (0, b2, f2, s2), (5, (b0 + 34), f3, s3), (12, b4, f4, s4)] h) (f0 := f0) (xok_sub ho [0] rfl (by decide)) s0 (5 : Int32) x hx) rfl (fun x4 _ => ?_)
    exact s_iret (pc := 50) dX11_ordered_50 rfl (fun _ _ q => q)
end
section
variable {l : Launch} {n0 S0 : Nat} {h : aH} {b0 b2 b4 : Nat} {f0 f1 f2 f3 f4 : Nat → Option Nat}
abbrev MX11_number : aM := (cX11_number, RX11, 1, (some .long), false)
def pX11_numberF (s0 : RS) (s1 : RS) (s2 : RS) (s3 : RS) (s4 : RS) : Option (Int64 × RS × RS × RS) :=
  (pX5_numberOfF s3 s2 s4 s1 (s1.1 4)).bind fun x1 =>
  (pX11_tellLong s0 x1.1).bind fun x2 =>
  some (x2.1, x2.2, x1.2.1, x1.2.2)
theorem pX11_numberF_w (ho : xok [(11, b0), (7, (b0 + 8)), (0, b2), (5, (b0 + 34)), (12, b4)] h.2.1) (hq_1_0 : f1 0 = some b2) (hq_3_5 : f3 5 = some b4) (s0 : RS) (s1 : RS) (s2 : RS) (s3 : RS) (s4 : RS) : aS l 63 MX11_number n0 S0 (oΦ (fun (x : Int64 × RS × RS × RS) => ((some (.long x.1)), xw [(11, b0, f0, x.2.1), (7, (b0 + 8), f1, s1), (0, b2, f2, s2), (5, (b0 + 34), (va_up f3 0 (some b2)), x.2.2.1), (12, b4, f4, x.2.2.2)] h))) 0 [(0, .ref b0)] [] (xw [(11, b0, f0, s0), (7, (b0 + 8), f1, s1), (0, b2, f2, s2), (5, (b0 + 34), f3, s3), (12, b4, f4, s4)] h) (pX11_numberF s0 s1 s2 s3 s4) := by
  unfold pX11_numberF
  refine s_aload_n (pc := 0) 0 dX11_number_0 rfl ?_
  refine s_aload_n (pc := 1) 0 dX11_number_1 rfl ?_
  refine xg_X11_46 0 ho rfl (pc := 2) dX11_number_2 rfl ?_
  refine s_aload_n (pc := 5) 0 dX11_number_5 rfl ?_
  refine xg_X11_25 0 ho rfl (pc := 6) dX11_number_6 rfl ?_
  refine xg_X11_174 1 ho rfl (pc := 9) dX11_number_9 rfl hq_1_0 ?_
  refine s_aload_n (pc := 12) 0 dX11_number_12 rfl ?_
  refine xg_X11_25 0 ho rfl (pc := 13) dX11_number_13 rfl ?_
  refine xg_X11_337 1 ho rfl (pc := 16) dX11_number_16 rfl ?_
  refine s_aload_n (pc := 19) 0 dX11_number_19 rfl ?_
  refine xg_X11_25 0 ho rfl (pc := 20) dX11_number_20 rfl ?_
  refine xg_X11_344 1 ho rfl (pc := 23) dX11_number_23 rfl ?_
  refine x_callV (M := MX11_number) (L := [(11, b0, f0, s0), (7, (b0 + 8), f1, s1), (0, b2, f2, s2), (5, (b0 + 34), f3, s3), (12, b4, f4, s4)]) (h := h) (j := 3) (As := [.ref b2, .ref ((b0 + 8) + 16), .int (s1.1 4)]) (st := [.ref b0]) (A := fun (x : Int64 × RS × RS) => some (.long x.1)) (Lc := [(5, (b0 + 34), f3, s3), (0, b2, f2, s2), (12, b4, f4, s4), (7, (b0 + 8), f1, s1)]) (Lr := fun (x : Int64 × RS × RS) => [(5, (b0 + 34), (va_up f3 0 (some b2)), x.2.1), (0, b2, f2, s2), (12, b4, f4, x.2.2), (7, (b0 + 8), f1, s1)]) (L2 := fun (x : Int64 × RS × RS) => [(11, b0, f0, s0), (7, (b0 + 8), f1, s1), (0, b2, f2, s2), (5, (b0 + 34), (va_up f3 0 (some b2)), x.2.1), (12, b4, f4, x.2.2)]) cv_X11_354 (by decide) (pc := 26) dX11_number_26 ho rfl xc0_5 rfl rfl (Nat.le_of_ble_eq_true rfl) (xovs (L := [(11, b0, f0, s0), (7, (b0 + 8), f1, s1), (0, b2, f2, s2), (5, (b0 + 34), f3, s3), (12, b4, f4, s4)]) (h := h) [(3, (5, (b0 + 34), f3, s3)), (2, (0, b2, f2, s2)), (4, (12, b4, f4, s4)), (1, (7, (b0 + 8), f1, s1))] ho ⟨rfl, rfl, rfl, rfl, trivial⟩).1 (fun x => (xovs (L := [(11, b0, f0, s0), (7, (b0 + 8), f1, s1), (0, b2, f2, s2), (5, (b0 + 34), f3, s3), (12, b4, f4, s4)]) (h := h) [(3, (5, (b0 + 34), (va_up f3 0 (some b2)), x.2.1)), (2, (0, b2, f2, s2)), (4, (12, b4, f4, x.2.2)), (1, (7, (b0 + 8), f1, s1))] ho ⟨rfl, rfl, rfl, rfl, trivial⟩).1) (fun x hx => pX5_numberOfF_ok (h := xw [(11, b0, f0, s0), (7, (b0 + 8), f1, s1), (0, b2, f2, s2), (5, (b0 + 34), f3, s3), (12, b4, f4, s4)] h) (f0 := f3) (f1 := f2) (f2 := f4) (f3 := f1) (xok_sub ho [3, 2, 4, 1] rfl (by decide)) hq_3_5 s3 s2 s4 s1 (s1.1 4) x hx) rfl (fun x1 _ => ?_)
  refine x_callV (M := MX11_number) (L := [(11, b0, f0, s0), (7, (b0 + 8), f1, s1), (0, b2, f2, s2), (5, (b0 + 34), (va_up f3 0 (some b2)), x1.2.1), (12, b4, f4, x1.2.2)]) (h := h) (j := 0) (As := [.long x1.1]) (st := []) (A := fun (x : Int64 × RS) => some (.long x.1)) (Lc := [(11, b0, f0, s0)]) (Lr := fun (x : Int64 × RS) => [(11, b0, f0, x.2)]) (L2 := fun (x : Int64 × RS) => [(11, b0, f0, x.2), (7, (b0 + 8), f1, s1), (0, b2, f2, s2), (5, (b0 + 34), (va_up f3 0 (some b2)), x1.2.1), (12, b4, f4, x1.2.2)]) cv_X11_121 (by decide) (pc := 29) dX11_number_29 ho rfl xc0_11 rfl rfl (Nat.le_of_ble_eq_true rfl) (xovs (L := [(11, b0, f0, s0), (7, (b0 + 8), f1, s1), (0, b2, f2, s2), (5, (b0 + 34), (va_up f3 0 (some b2)), x1.2.1), (12, b4, f4, x1.2.2)]) (h := h) [(0, (11, b0, f0, s0))] ho ⟨rfl, trivial⟩).1 (fun x => (xovs (L := [(11, b0, f0, s0), (7, (b0 + 8), f1, s1), (0, b2, f2, s2), (5, (b0 + 34), (va_up f3 0 (some b2)), x1.2.1), (12, b4, f4, x1.2.2)]) (h := h) [(0, (11, b0, f0, x.2))] ho ⟨rfl, trivial⟩).1) (fun x hx => pX11_tellLong_ok (h := xw [(11, b0, f0, s0), (7, (b0 + 8), f1, s1), (0, b2, f2, s2), (5, (b0 + 34), (va_up f3 0 (some b2)), x1.2.1), (12, b4, f4, x1.2.2)] h) (f0 := f0) (xok_sub ho [0] rfl (by decide)) s0 x1.1 x hx) rfl (fun x2 _ => ?_)
  exact s_lret (pc := 32) dX11_number_32 rfl (fun _ _ q => q)
theorem pX11_numberF_ok (ho : xok [(11, b0), (7, (b0 + 8)), (0, b2), (5, (b0 + 34)), (12, b4)] h.2.1) (hq_1_0 : f1 0 = some b2) (hq_3_5 : f3 5 = some b4) (s0 : RS) (s1 : RS) (s2 : RS) (s3 : RS) (s4 : RS) : ∀ x, pX11_numberF s0 s1 s2 s3 s4 = some x → aMet l 63 yX11_number cX11_number 1 (some .long) [.ref b0] (xw [(11, b0, f0, s0), (7, (b0 + 8), f1, s1), (0, b2, f2, s2), (5, (b0 + 34), f3, s3), (12, b4, f4, s4)] h) (some (.long x.1)) (xw [(11, b0, f0, x.2.1), (7, (b0 + 8), f1, s1), (0, b2, f2, s2), (5, (b0 + 34), (va_up f3 0 (some b2)), x.2.2.1), (12, b4, f4, x.2.2.2)] h) := fun x hx => a_meth (ini := false) (y := yX11_number) (by decide +kernel) (fun q => by cases q) (fun _ => Nat.le_of_ble_eq_true rfl) (pX11_numberF_w ho hq_1_0 hq_3_5 s0 s1 s2 s3 s4) x hx _ _ ⟨rfl, rfl⟩
end
section
variable {l : Launch} {n0 S0 : Nat} {h : aH} {b0 b2 b4 : Nat} {f0 f1 f2 f3 f4 : Nat → Option Nat}
def pX11_numberGh (s0 : RS) (s1 : RS) (s2 : RS) (s3 : RS) (s4 : RS) : Option Int32 :=
  some (s1.1 4)
theorem pX11_numberGh_w (ho : xok [(11, b0), (7, (b0 + 8)), (0, b2), (5, (b0 + 34)), (12, b4)] h.2.1) (hq_1_0 : f1 0 = some b2) (hq_3_5 : f3 5 = some b4) (s0 : RS) (s1 : RS) (s2 : RS) (s3 : RS) (s4 : RS) : aS l 64 MX11_number n0 S0 (fun (x : Int32) r h' => aEv l 64 MX11_number n0 S0 26 [(0, .ref b0)] [.int x, .ref ((b0 + 8) + 16), .ref b2, .ref (b0 + 34), .ref b0] (xw [(11, b0, f0, s0), (7, (b0 + 8), f1, s1), (0, b2, f2, s2), (5, (b0 + 34), f3, s3), (12, b4, f4, s4)] h) r h') 0 [(0, .ref b0)] [] (xw [(11, b0, f0, s0), (7, (b0 + 8), f1, s1), (0, b2, f2, s2), (5, (b0 + 34), f3, s3), (12, b4, f4, s4)] h) (pX11_numberGh s0 s1 s2 s3 s4) := by
  unfold pX11_numberGh
  refine s_aload_n (pc := 0) 0 dX11_number_0 rfl ?_
  refine s_aload_n (pc := 1) 0 dX11_number_1 rfl ?_
  refine xg_X11_46 0 ho rfl (pc := 2) dX11_number_2 rfl ?_
  refine s_aload_n (pc := 5) 0 dX11_number_5 rfl ?_
  refine xg_X11_25 0 ho rfl (pc := 6) dX11_number_6 rfl ?_
  refine xg_X11_174 1 ho rfl (pc := 9) dX11_number_9 rfl hq_1_0 ?_
  refine s_aload_n (pc := 12) 0 dX11_number_12 rfl ?_
  refine xg_X11_25 0 ho rfl (pc := 13) dX11_number_13 rfl ?_
  refine xg_X11_337 1 ho rfl (pc := 16) dX11_number_16 rfl ?_
  refine s_aload_n (pc := 19) 0 dX11_number_19 rfl ?_
  refine xg_X11_25 0 ho rfl (pc := 20) dX11_number_20 rfl ?_
  refine xg_X11_344 1 ho rfl (pc := 23) dX11_number_23 rfl ?_
  exact s_ev (fun _ _ q => q)
end
section
variable {l : Launch} {n0 S0 : Nat} {h : aH} {b0 : Nat} {f0 : Nat → Option Nat}
def pX11_numberGt (s0 : RS) (k1 : Int64) : Option (Int64 × RS) :=
  (pX11_tellLong s0 k1).bind fun x1 =>
  some (x1.1, x1.2)
theorem pX11_numberGt_w (ho : xok [(11, b0)] h.2.1) (s0 : RS) (k1 : Int64) : aS l 64 MX11_number n0 S0 (oΦ (fun (x : Int64 × RS) => ((some (.long x.1)), xw [(11, b0, f0, x.2)] h))) 29 [(0, .ref b0)] [.long k1, .ref b0] (xw [(11, b0, f0, s0)] h) (pX11_numberGt s0 k1) := by
  unfold pX11_numberGt
  refine x_callV (M := MX11_number) (L := [(11, b0, f0, s0)]) (h := h) (j := 0) (As := [.long k1]) (st := []) (A := fun (x : Int64 × RS) => some (.long x.1)) (Lc := [(11, b0, f0, s0)]) (Lr := fun (x : Int64 × RS) => [(11, b0, f0, x.2)]) (L2 := fun (x : Int64 × RS) => [(11, b0, f0, x.2)]) cv_X11_121 (by decide) (pc := 29) dX11_number_29 ho rfl xc0_11 rfl rfl (Nat.le_of_ble_eq_true rfl) (xovs (L := [(11, b0, f0, s0)]) (h := h) [(0, (11, b0, f0, s0))] ho ⟨rfl, trivial⟩).1 (fun x => (xovs (L := [(11, b0, f0, s0)]) (h := h) [(0, (11, b0, f0, x.2))] ho ⟨rfl, trivial⟩).1) (fun x hx => pX11_tellLong_ok (h := xw [(11, b0, f0, s0)] h) (f0 := f0) (xok_sub ho [0] rfl (by decide)) s0 k1 x hx) rfl (fun x1 _ => ?_)
  exact s_lret (pc := 32) dX11_number_32 rfl (fun _ _ q => q)
end
section
variable {l : Launch} {n0 S0 : Nat} {h : aH} {b0 : Nat} {f0 f1 : Nat → Option Nat}
abbrev MX11_book : aM := (cX11_book, RX11, 3, (some .int), false)
def X11_bookE_j15 (s0 : RS) (s1 : RS) : Option (Int32 × RS) :=
  (pX11_refuse s0 (5 : Int32)).bind fun x1 =>
  some (x1.1, x1.2)
theorem X11_bookE_j15_ok (ho : xok [(11, b0), (8, (b0 + 2))] h.2.1) (s0 : RS) (s1 : RS) : aS l 1 MX11_book n0 S0 (oΦ (fun (x : Int32 × RS) => ((some (.int x.1)), xw [(11, b0, f0, x.2), (8, (b0 + 2), f1, s1)] h))) 15 [(0, .ref b0)] [] (xw [(11, b0, f0, s0), (8, (b0 + 2), f1, s1)] h) (X11_bookE_j15 s0 s1) := by
  unfold X11_bookE_j15
  refine s_aload_n (pc := 15) 0 dX11_book_15 rfl ?_
  refine s_iconst (v := 5) (pc := 16) dX11_book_16 (by decide) ?_
  refine x_callV (M := MX11_book) (L := [(11, b0, f0, s0), (8, (b0 + 2), f1, s1)]) (h := h) (j := 0) (As := [.int 5]) (st := []) (A := fun (x : Int32 × RS) => some (.int x.1)) (Lc := [(11, b0, f0, s0)]) (Lr := fun (x : Int32 × RS) => [(11, b0, f0, x.2)]) (L2 := fun (x : Int32 × RS) => [(11, b0, f0, x.2), (8, (b0 + 2), f1, s1)]) cv_X11_113 (by decide) (pc := 17) dX11_book_17 ho rfl xc0_11 rfl rfl (Nat.le_of_ble_eq_true rfl) (xovs (L := [(11, b0, f0, s0), (8, (b0 + 2), f1, s1)]) (h := h) [(0, (11, b0, f0, s0))] ho ⟨rfl, trivial⟩).1 (fun x => (xovs (L := [(11, b0, f0, s0), (8, (b0 + 2), f1, s1)]) (h := h) [(0, (11, b0, f0, x.2))] ho ⟨rfl, trivial⟩).1) (fun x hx => pX11_refuse_ok (h := xw [(11, b0, f0, s0), (8, (b0 + 2), f1, s1)] h) (f0 := f0) (xok_sub ho [0] rfl (by decide)) s0 (5 : Int32) x hx) rfl (fun x1 _ => ?_)
  exact s_iret (pc := 20) dX11_book_20 rfl (fun _ _ q => q)
def pX11_bookE (s0 : RS) (s1 : RS) (a0 : Int32) : Option (Int32 × RS) :=
  if a0 < 0 then
    X11_bookE_j15 s0 s1
  else
    if a0 ≤ (s1.1 2) then
      none
    else
      X11_bookE_j15 s0 s1
theorem pX11_bookE_w (ho : xok [(11, b0), (8, (b0 + 2))] h.2.1) (s0 : RS) (s1 : RS) (a0 : Int32) : aS l 1 MX11_book n0 S0 (oΦ (fun (x : Int32 × RS) => ((some (.int x.1)), xw [(11, b0, f0, x.2), (8, (b0 + 2), f1, s1)] h))) 0 [(0, .ref b0), (1, .int a0)] [] (xw [(11, b0, f0, s0), (8, (b0 + 2), f1, s1)] h) (pX11_bookE s0 s1 a0) := by
  unfold pX11_bookE
  refine s_iload_n (pc := 0) 1 dX11_book_0 rfl ?_
  refine s_if_lt (tgt := 15) (pc := 1) dX11_book_1 (by decide) (fun _ => ?_) (fun _ => ?_)
  · refine s_sub [0] rfl ?_
    exact X11_bookE_j15_ok ho s0 s1
  · refine s_iload_n (pc := 4) 1 dX11_book_4 rfl ?_
    refine s_aload_n (pc := 5) 0 dX11_book_5 rfl ?_
    refine xg_X11_18 0 ho rfl (pc := 6) dX11_book_6 rfl ?_
    refine xg_X11_145 1 ho rfl (pc := 9) dX11_book_9 rfl ?_
    refine s_icmp_le (tgt := 21) (pc := 12) dX11_book_12 (by decide) (fun _ => ?_) (fun _ => ?_)
    · exact fun z hz => by cases hz
    · refine s_sub [0] rfl ?_
      exact X11_bookE_j15_ok ho s0 s1
theorem pX11_bookE_ok (ho : xok [(11, b0), (8, (b0 + 2))] h.2.1) (s0 : RS) (s1 : RS) (a0 : Int32) : ∀ x, pX11_bookE s0 s1 a0 = some x → aMet l 1 yX11_book cX11_book 3 (some .int) [.ref b0, .int a0] (xw [(11, b0, f0, s0), (8, (b0 + 2), f1, s1)] h) (some (.int x.1)) (xw [(11, b0, f0, x.2), (8, (b0 + 2), f1, s1)] h) := fun x hx => a_meth (ini := false) (y := yX11_book) (by decide +kernel) (fun q => by cases q) (fun _ => Nat.le_of_ble_eq_true rfl) (pX11_bookE_w ho s0 s1 a0) x hx _ _ ⟨rfl, rfl⟩
end
section
variable {l : Launch} {n0 S0 : Nat} {h : aH} {b0 : Nat} {f0 f1 : Nat → Option Nat}
def pX11_bookh (s0 : RS) (s1 : RS) (a0 : Int32) : Option Int32 :=
  if a0 < 0 then
    none
  else
    if a0 ≤ (s1.1 2) then
      some a0
    else
      none
theorem pX11_bookh_w (ho : xok [(11, b0), (8, (b0 + 2))] h.2.1) (s0 : RS) (s1 : RS) (a0 : Int32) : aS l 8 MX11_book n0 S0 (fun (x : Int32) r h' => aEv l 8 MX11_book n0 S0 21 [(0, .ref b0), (1, .int x)] [] (xw [(11, b0, f0, s0), (8, (b0 + 2), f1, s1)] h) r h') 0 [(0, .ref b0), (1, .int a0)] [] (xw [(11, b0, f0, s0), (8, (b0 + 2), f1, s1)] h) (pX11_bookh s0 s1 a0) := by
  unfold pX11_bookh
  refine s_iload_n (pc := 0) 1 dX11_book_0 rfl ?_
  refine s_if_lt (tgt := 15) (pc := 1) dX11_book_1 (by decide) (fun _ => ?_) (fun _ => ?_)
  · exact fun z hz => by cases hz
  · refine s_iload_n (pc := 4) 1 dX11_book_4 rfl ?_
    refine s_aload_n (pc := 5) 0 dX11_book_5 rfl ?_
    refine xg_X11_18 0 ho rfl (pc := 6) dX11_book_6 rfl ?_
    refine xg_X11_145 1 ho rfl (pc := 9) dX11_book_9 rfl ?_
    refine s_icmp_le (tgt := 21) (pc := 12) dX11_book_12 (by decide) (fun _ => ?_) (fun _ => ?_)
    · exact s_ev (fun _ _ q => q)
    · exact fun z hz => by cases hz
end
section
variable {l : Launch} {n0 S0 : Nat} {h : aH} {b0 r_new : Nat} {f0 f1 : Nat → Option Nat}
def pX11_bookm (s0 : RS) (s1 : RS) (v1 : Int32) : Option Int32 :=
  some v1
theorem pX11_bookm_w (ho : xok [(11, b0), (8, (b0 + 2))] h.2.1) (s0 : RS) (s1 : RS) (v1 : Int32) : aS l 8 MX11_book n0 S0 (fun (x : Int32) r h' => aEv l 8 MX11_book n0 S0 29 [(0, .ref b0), (1, .int x)] [.ref (b0 + 2), .ref r_new, .ref r_new] (xw [(11, b0, f0, s0), (8, (b0 + 2), f1, s1)] h) r h') 24 [(0, .ref b0), (1, .int v1)] [.ref r_new] (xw [(11, b0, f0, s0), (8, (b0 + 2), f1, s1)] h) (pX11_bookm s0 s1 v1) := by
  unfold pX11_bookm
  refine s_dup (pc := 24) dX11_book_24 rfl ?_
  refine s_aload_n (pc := 25) 0 dX11_book_25 rfl ?_
  refine xg_X11_18 0 ho rfl (pc := 26) dX11_book_26 rfl ?_
  exact s_ev (fun _ _ q => q)
end
section
variable {l : Launch} {n0 S0 : Nat} {h : aH} {b0 b3 b4 : Nat} {f0 f1 f2 f3 f4 : Nat → Option Nat}
def pX11_bookt (s0 : RS) (s1 : RS) (s2 : RS) (s3 : RS) (s4 : RS) (b0 : Nat) (b3 : Nat) (b4 : Nat) (f2 : Nat → Option Nat) (v1 : Int32) : Option (Int32 × RS × RS × RS × RS × (Nat → Option Nat)) :=
  (pX1_readBook s3 s1 s4 v1).bind fun x1 =>
  if (x1.1.1 3) = 0 then
    (pX7_begin s2 x1.2).bind fun x2 =>
    (pX11_tell s0 (x1.2.1 1)).bind fun x3 =>
    some (x3.1, x3.2, x1.1, x2, x1.2, (va_up (va_up f2 0 (some b4)) 1 none))
  else
    (pX11_refuse s0 (10 : Int32)).bind fun x4 =>
    some (x4.1, x4.2, x1.1, s2, x1.2, f2)
theorem pX11_bookt_w (ho : xok [(11, b0), (8, (b0 + 2)), (7, (b0 + 8)), (1, b3), (0, b4)] h.2.1) (hq_3_0 : f3 0 = some (b0 + 2)) (hq_3_1 : f3 1 = some b4) (s0 : RS) (s1 : RS) (s2 : RS) (s3 : RS) (s4 : RS) (v1 : Int32) : aS l 8 MX11_book n0 S0 (oΦ (fun (x : Int32 × RS × RS × RS × RS × (Nat → Option Nat)) => ((some (.int x.1)), xw [(11, b0, f0, x.2.1), (8, (b0 + 2), f1, x.2.2.1), (7, (b0 + 8), x.2.2.2.2.2, x.2.2.2.1), (1, b3, f3, s3), (0, b4, f4, x.2.2.2.2.1)] h))) 32 [(0, .ref b0), (1, .int v1)] [.ref b3] (xw [(11, b0, f0, s0), (8, (b0 + 2), f1, s1), (7, (b0 + 8), f2, s2), (1, b3, f3, s3), (0, b4, f4, s4)] h) (pX11_bookt s0 s1 s2 s3 s4 b0 b3 b4 f2 v1) := by
  unfold pX11_bookt
  refine s_iload_n (pc := 32) 1 dX11_book_32 rfl ?_
  refine x_callV (M := MX11_book) (L := [(11, b0, f0, s0), (8, (b0 + 2), f1, s1), (7, (b0 + 8), f2, s2), (1, b3, f3, s3), (0, b4, f4, s4)]) (h := h) (j := 3) (As := [.int v1]) (st := []) (A := fun (x : RS × RS) => some (.ref b4)) (Lc := [(1, b3, f3, s3), (8, (b0 + 2), f1, s1), (0, b4, f4, s4)]) (Lr := fun (x : RS × RS) => [(1, b3, f3, s3), (8, (b0 + 2), f1, x.1), (0, b4, f4, x.2)]) (L2 := fun (x : RS × RS) => [(11, b0, f0, s0), (8, (b0 + 2), f1, x.1), (7, (b0 + 8), f2, s2), (1, b3, f3, s3), (0, b4, f4, x.2)]) cv_X11_153 (by decide) (pc := 33) dX11_book_33 ho rfl xc0_1 rfl rfl (Nat.le_of_ble_eq_true rfl) (xovs (L := [(11, b0, f0, s0), (8, (b0 + 2), f1, s1), (7, (b0 + 8), f2, s2), (1, b3, f3, s3), (0, b4, f4, s4)]) (h := h) [(3, (1, b3, f3, s3)), (1, (8, (b0 + 2), f1, s1)), (4, (0, b4, f4, s4))] ho ⟨rfl, rfl, rfl, trivial⟩).1 (fun x => (xovs (L := [(11, b0, f0, s0), (8, (b0 + 2), f1, s1), (7, (b0 + 8), f2, s2), (1, b3, f3, s3), (0, b4, f4, s4)]) (h := h) [(3, (1, b3, f3, s3)), (1, (8, (b0 + 2), f1, x.1)), (4, (0, b4, f4, x.2))] ho ⟨rfl, rfl, rfl, trivial⟩).1) (fun x hx => pX1_readBook_ok (h := xw [(11, b0, f0, s0), (8, (b0 + 2), f1, s1), (7, (b0 + 8), f2, s2), (1, b3, f3, s3), (0, b4, f4, s4)] h) (f0 := f3) (f1 := f1) (f2 := f4) (xok_sub ho [3, 1, 4] rfl (by decide)) hq_3_0 hq_3_1 s3 s1 s4 v1 x hx) rfl (fun x1 _ => ?_)
  refine s_astore_n (lv' := [(2, .ref b4), (0, .ref b0), (1, .int v1)]) (pc := 36) dX11_book_36 (by decide) rfl ?_
  refine s_aload_n (pc := 37) 1 dX11_book_37 rfl ?_
  refine xg_X11_18 0 ho rfl (pc := 38) dX11_book_38 rfl ?_
  refine xg_X11_157 1 ho rfl (pc := 41) dX11_book_41 rfl ?_
  refine s_if_eq (tgt := 54) (pc := 44) dX11_book_44 (by decide) (fun _ => ?_) (fun _ => ?_)
  · refine s_aload_n (pc := 54) 1 dX11_book_54 rfl ?_
    refine xg_X11_25 0 ho rfl (pc := 55) dX11_book_55 rfl ?_
    refine s_aload_n (pc := 58) 0 dX11_book_58 rfl ?_
    refine x_callV (M := MX11_book) (L := [(11, b0, f0, s0), (8, (b0 + 2), f1, x1.1), (7, (b0 + 8), f2, s2), (1, b3, f3, s3), (0, b4, f4, x1.2)]) (h := h) (j := 2) (As := [.ref b4]) (st := []) (A := fun (x : RS) => none) (Lc := [(7, (b0 + 8), f2, s2), (0, b4, f4, x1.2)]) (Lr := fun (x : RS) => [(7, (b0 + 8), (va_up (va_up f2 0 (some b4)) 1 none), x), (0, b4, f4, x1.2)]) (L2 := fun (x : RS) => [(11, b0, f0, s0), (8, (b0 + 2), f1, x1.1), (7, (b0 + 8), (va_up (va_up f2 0 (some b4)) 1 none), x), (1, b3, f3, s3), (0, b4, f4, x1.2)]) cv_X11_160 (by decide) (pc := 59) dX11_book_59 ho rfl xc0_7 rfl rfl (Nat.le_of_ble_eq_true rfl) (xovs (L := [(11, b0, f0, s0), (8, (b0 + 2), f1, x1.1), (7, (b0 + 8), f2, s2), (1, b3, f3, s3), (0, b4, f4, x1.2)]) (h := h) [(2, (7, (b0 + 8), f2, s2)), (4, (0, b4, f4, x1.2))] ho ⟨rfl, rfl, trivial⟩).1 (fun x => (xovs (L := [(11, b0, f0, s0), (8, (b0 + 2), f1, x1.1), (7, (b0 + 8), f2, s2), (1, b3, f3, s3), (0, b4, f4, x1.2)]) (h := h) [(2, (7, (b0 + 8), (va_up (va_up f2 0 (some b4)) 1 none), x)), (4, (0, b4, f4, x1.2))] ho ⟨rfl, rfl, trivial⟩).1) (fun x hx => pX7_begin_ok (h := xw [(11, b0, f0, s0), (8, (b0 + 2), f1, x1.1), (7, (b0 + 8), f2, s2), (1, b3, f3, s3), (0, b4, f4, x1.2)] h) (f0 := f2) (f1 := f4) (xok_sub ho [2, 4] rfl (by decide)) s2 x1.2 x hx) rfl (fun x2 _ => ?_)
    refine s_aload_n (pc := 62) 1 dX11_book_62 rfl ?_
    refine s_aload_n (pc := 63) 0 dX11_book_63 rfl ?_
    refine xg_X11_164 4 ho rfl (pc := 64) dX11_book_64 rfl ?_
    refine x_callV (M := MX11_book) (L := [(11, b0, f0, s0), (8, (b0 + 2), f1, x1.1), (7, (b0 + 8), (va_up (va_up f2 0 (some b4)) 1 none), x2), (1, b3, f3, s3), (0, b4, f4, x1.2)]) (h := h) (j := 0) (As := [.int (x1.2.1 1)]) (st := []) (A := fun (x : Int32 × RS) => some (.int x.1)) (Lc := [(11, b0, f0, s0)]) (Lr := fun (x : Int32 × RS) => [(11, b0, f0, x.2)]) (L2 := fun (x : Int32 × RS) => [(11, b0, f0, x.2), (8, (b0 + 2), f1, x1.1), (7, (b0 + 8), (va_up (va_up f2 0 (some b4)) 1 none), x2), (1, b3, f3, s3), (0, b4, f4, x1.2)]) cv_X11_169 (by decide) (pc := 67) dX11_book_67 ho rfl xc0_11 rfl rfl (Nat.le_of_ble_eq_true rfl) (xovs (L := [(11, b0, f0, s0), (8, (b0 + 2), f1, x1.1), (7, (b0 + 8), (va_up (va_up f2 0 (some b4)) 1 none), x2), (1, b3, f3, s3), (0, b4, f4, x1.2)]) (h := h) [(0, (11, b0, f0, s0))] ho ⟨rfl, trivial⟩).1 (fun x => (xovs (L := [(11, b0, f0, s0), (8, (b0 + 2), f1, x1.1), (7, (b0 + 8), (va_up (va_up f2 0 (some b4)) 1 none), x2), (1, b3, f3, s3), (0, b4, f4, x1.2)]) (h := h) [(0, (11, b0, f0, x.2))] ho ⟨rfl, trivial⟩).1) (fun x hx => pX11_tell_ok (h := xw [(11, b0, f0, s0), (8, (b0 + 2), f1, x1.1), (7, (b0 + 8), (va_up (va_up f2 0 (some b4)) 1 none), x2), (1, b3, f3, s3), (0, b4, f4, x1.2)] h) (f0 := f0) (xok_sub ho [0] rfl (by decide)) s0 (x1.2.1 1) x hx) rfl (fun x3 _ => ?_)
    exact s_iret (pc := 70) dX11_book_70 rfl (fun _ _ q => q)
  · refine s_aload_n (pc := 47) 1 dX11_book_47 rfl ?_
    refine s_bipush (v := 10) (pc := 48) dX11_book_48 (by decide) ?_
    refine x_callV (M := MX11_book) (L := [(11, b0, f0, s0), (8, (b0 + 2), f1, x1.1), (7, (b0 + 8), f2, s2), (1, b3, f3, s3), (0, b4, f4, x1.2)]) (h := h) (j := 0) (As := [.int 10]) (st := []) (A := fun (x : Int32 × RS) => some (.int x.1)) (Lc := [(11, b0, f0, s0)]) (Lr := fun (x : Int32 × RS) => [(11, b0, f0, x.2)]) (L2 := fun (x : Int32 × RS) => [(11, b0, f0, x.2), (8, (b0 + 2), f1, x1.1), (7, (b0 + 8), f2, s2), (1, b3, f3, s3), (0, b4, f4, x1.2)]) cv_X11_113 (by decide) (pc := 50) dX11_book_50 ho rfl xc0_11 rfl rfl (Nat.le_of_ble_eq_true rfl) (xovs (L := [(11, b0, f0, s0), (8, (b0 + 2), f1, x1.1), (7, (b0 + 8), f2, s2), (1, b3, f3, s3), (0, b4, f4, x1.2)]) (h := h) [(0, (11, b0, f0, s0))] ho ⟨rfl, trivial⟩).1 (fun x => (xovs (L := [(11, b0, f0, s0), (8, (b0 + 2), f1, x1.1), (7, (b0 + 8), f2, s2), (1, b3, f3, s3), (0, b4, f4, x1.2)]) (h := h) [(0, (11, b0, f0, x.2))] ho ⟨rfl, trivial⟩).1) (fun x hx => pX11_refuse_ok (h := xw [(11, b0, f0, s0), (8, (b0 + 2), f1, x1.1), (7, (b0 + 8), f2, s2), (1, b3, f3, s3), (0, b4, f4, x1.2)] h) (f0 := f0) (xok_sub ho [0] rfl (by decide)) s0 (10 : Int32) x hx) rfl (fun x4 _ => ?_)
    exact s_iret (pc := 53) dX11_book_53 rfl (fun _ _ q => q)
end
section
variable {l : Launch} {n0 S0 : Nat} {h : aH} {b0 : Nat} {f0 f1 : Nat → Option Nat}
abbrev MX11_log : aM := (cX11_log, RX11, 3, (some .int), false)
def X11_logE_j22 (s0 : RS) (s1 : RS) : Option (Int32 × RS) :=
  (pX11_refuse s0 (5 : Int32)).bind fun x1 =>
  some (x1.1, x1.2)
theorem X11_logE_j22_ok (ho : xok [(11, b0), (8, (b0 + 2))] h.2.1) (s0 : RS) (s1 : RS) : aS l 1 MX11_log n0 S0 (oΦ (fun (x : Int32 × RS) => ((some (.int x.1)), xw [(11, b0, f0, x.2), (8, (b0 + 2), f1, s1)] h))) 22 [(0, .ref b0)] [] (xw [(11, b0, f0, s0), (8, (b0 + 2), f1, s1)] h) (X11_logE_j22 s0 s1) := by
  unfold X11_logE_j22
  refine s_aload_n (pc := 22) 0 dX11_log_22 rfl ?_
  refine s_iconst (v := 5) (pc := 23) dX11_log_23 (by decide) ?_
  refine x_callV (M := MX11_log) (L := [(11, b0, f0, s0), (8, (b0 + 2), f1, s1)]) (h := h) (j := 0) (As := [.int 5]) (st := []) (A := fun (x : Int32 × RS) => some (.int x.1)) (Lc := [(11, b0, f0, s0)]) (Lr := fun (x : Int32 × RS) => [(11, b0, f0, x.2)]) (L2 := fun (x : Int32 × RS) => [(11, b0, f0, x.2), (8, (b0 + 2), f1, s1)]) cv_X11_113 (by decide) (pc := 24) dX11_log_24 ho rfl xc0_11 rfl rfl (Nat.le_of_ble_eq_true rfl) (xovs (L := [(11, b0, f0, s0), (8, (b0 + 2), f1, s1)]) (h := h) [(0, (11, b0, f0, s0))] ho ⟨rfl, trivial⟩).1 (fun x => (xovs (L := [(11, b0, f0, s0), (8, (b0 + 2), f1, s1)]) (h := h) [(0, (11, b0, f0, x.2))] ho ⟨rfl, trivial⟩).1) (fun x hx => pX11_refuse_ok (h := xw [(11, b0, f0, s0), (8, (b0 + 2), f1, s1)] h) (f0 := f0) (xok_sub ho [0] rfl (by decide)) s0 (5 : Int32) x hx) rfl (fun x1 _ => ?_)
  exact s_iret (pc := 27) dX11_log_27 rfl (fun _ _ q => q)
def pX11_logE (s0 : RS) (s1 : RS) (a0 : Int32) : Option (Int32 × RS) :=
  if a0 < 0 then
    X11_logE_j22 s0 s1
  else
    if (s1.1 2) < a0 then
      X11_logE_j22 s0 s1
    else
      if a0 ≤ (300 : Int32) then
        none
      else
        X11_logE_j22 s0 s1
theorem pX11_logE_w (ho : xok [(11, b0), (8, (b0 + 2))] h.2.1) (s0 : RS) (s1 : RS) (a0 : Int32) : aS l 1 MX11_log n0 S0 (oΦ (fun (x : Int32 × RS) => ((some (.int x.1)), xw [(11, b0, f0, x.2), (8, (b0 + 2), f1, s1)] h))) 0 [(0, .ref b0), (1, .int a0)] [] (xw [(11, b0, f0, s0), (8, (b0 + 2), f1, s1)] h) (pX11_logE s0 s1 a0) := by
  unfold pX11_logE
  refine s_iload_n (pc := 0) 1 dX11_log_0 rfl ?_
  refine s_if_lt (tgt := 22) (pc := 1) dX11_log_1 (by decide) (fun _ => ?_) (fun _ => ?_)
  · refine s_sub [0] rfl ?_
    exact X11_logE_j22_ok ho s0 s1
  · refine s_iload_n (pc := 4) 1 dX11_log_4 rfl ?_
    refine s_aload_n (pc := 5) 0 dX11_log_5 rfl ?_
    refine xg_X11_18 0 ho rfl (pc := 6) dX11_log_6 rfl ?_
    refine xg_X11_145 1 ho rfl (pc := 9) dX11_log_9 rfl ?_
    refine s_icmp_gt (tgt := 22) (pc := 12) dX11_log_12 (by decide) (fun _ => ?_) (fun _ => ?_)
    · refine s_sub [0] rfl ?_
      exact X11_logE_j22_ok ho s0 s1
    · refine s_iload_n (pc := 15) 1 dX11_log_15 rfl ?_
      refine s_sipush (v := 300) (pc := 16) dX11_log_16 (by decide) ?_
      refine s_icmp_le (tgt := 28) (pc := 19) dX11_log_19 (by decide) (fun _ => ?_) (fun _ => ?_)
      · exact fun z hz => by cases hz
      · refine s_sub [0] rfl ?_
        exact X11_logE_j22_ok ho s0 s1
theorem pX11_logE_ok (ho : xok [(11, b0), (8, (b0 + 2))] h.2.1) (s0 : RS) (s1 : RS) (a0 : Int32) : ∀ x, pX11_logE s0 s1 a0 = some x → aMet l 1 yX11_log cX11_log 3 (some .int) [.ref b0, .int a0] (xw [(11, b0, f0, s0), (8, (b0 + 2), f1, s1)] h) (some (.int x.1)) (xw [(11, b0, f0, x.2), (8, (b0 + 2), f1, s1)] h) := fun x hx => a_meth (ini := false) (y := yX11_log) (by decide +kernel) (fun q => by cases q) (fun _ => Nat.le_of_ble_eq_true rfl) (pX11_logE_w ho s0 s1 a0) x hx _ _ ⟨rfl, rfl⟩
end
section
variable {l : Launch} {n0 S0 : Nat} {h : aH} {b0 : Nat} {f0 f1 : Nat → Option Nat}
def pX11_logh (s0 : RS) (s1 : RS) (a0 : Int32) : Option Int32 :=
  if a0 < 0 then
    none
  else
    if (s1.1 2) < a0 then
      none
    else
      if a0 ≤ (300 : Int32) then
        some a0
      else
        none
theorem pX11_logh_w (ho : xok [(11, b0), (8, (b0 + 2))] h.2.1) (s0 : RS) (s1 : RS) (a0 : Int32) : aS l 8 MX11_log n0 S0 (fun (x : Int32) r h' => aEv l 8 MX11_log n0 S0 28 [(0, .ref b0), (1, .int x)] [] (xw [(11, b0, f0, s0), (8, (b0 + 2), f1, s1)] h) r h') 0 [(0, .ref b0), (1, .int a0)] [] (xw [(11, b0, f0, s0), (8, (b0 + 2), f1, s1)] h) (pX11_logh s0 s1 a0) := by
  unfold pX11_logh
  refine s_iload_n (pc := 0) 1 dX11_log_0 rfl ?_
  refine s_if_lt (tgt := 22) (pc := 1) dX11_log_1 (by decide) (fun _ => ?_) (fun _ => ?_)
  · exact fun z hz => by cases hz
  · refine s_iload_n (pc := 4) 1 dX11_log_4 rfl ?_
    refine s_aload_n (pc := 5) 0 dX11_log_5 rfl ?_
    refine xg_X11_18 0 ho rfl (pc := 6) dX11_log_6 rfl ?_
    refine xg_X11_145 1 ho rfl (pc := 9) dX11_log_9 rfl ?_
    refine s_icmp_gt (tgt := 22) (pc := 12) dX11_log_12 (by decide) (fun _ => ?_) (fun _ => ?_)
    · exact fun z hz => by cases hz
    · refine s_iload_n (pc := 15) 1 dX11_log_15 rfl ?_
      refine s_sipush (v := 300) (pc := 16) dX11_log_16 (by decide) ?_
      refine s_icmp_le (tgt := 28) (pc := 19) dX11_log_19 (by decide) (fun _ => ?_) (fun _ => ?_)
      · exact s_ev (fun _ _ q => q)
      · exact fun z hz => by cases hz
end
section
variable {l : Launch} {n0 S0 : Nat} {h : aH} {b0 b2 r_new : Nat} {f0 f1 f2 f3 : Nat → Option Nat}
def pX11_logm (s0 : RS) (s1 : RS) (s2 : RS) (s3 : RS) (v1 : Int32) : Option Int32 :=
  some v1
theorem pX11_logm_w (ho : xok [(11, b0), (7, (b0 + 8)), (0, b2), (8, (b0 + 2))] h.2.1) (hq_1_0 : f1 0 = some b2) (s0 : RS) (s1 : RS) (s2 : RS) (s3 : RS) (v1 : Int32) : aS l 8 MX11_log n0 S0 (fun (x : Int32) r h' => aEv l 8 MX11_log n0 S0 43 [(0, .ref b0), (1, .int x)] [.ref b2, .ref (b0 + 2), .ref r_new, .ref r_new] (xw [(11, b0, f0, s0), (7, (b0 + 8), f1, s1), (0, b2, f2, s2), (8, (b0 + 2), f3, s3)] h) r h') 31 [(0, .ref b0), (1, .int v1)] [.ref r_new] (xw [(11, b0, f0, s0), (7, (b0 + 8), f1, s1), (0, b2, f2, s2), (8, (b0 + 2), f3, s3)] h) (pX11_logm s0 s1 s2 s3 v1) := by
  unfold pX11_logm
  refine s_dup (pc := 31) dX11_log_31 rfl ?_
  refine s_aload_n (pc := 32) 0 dX11_log_32 rfl ?_
  refine xg_X11_18 0 ho rfl (pc := 33) dX11_log_33 rfl ?_
  refine s_aload_n (pc := 36) 0 dX11_log_36 rfl ?_
  refine xg_X11_25 0 ho rfl (pc := 37) dX11_log_37 rfl ?_
  refine xg_X11_174 1 ho rfl (pc := 40) dX11_log_40 rfl hq_1_0 ?_
  exact s_ev (fun _ _ q => q)
end
section
variable {l : Launch} {n0 S0 : Nat} {h : aH} {b0 b2 b4 b5 : Nat} {f0 f1 f2 f3 f4 f5 : Nat → Option Nat}
def pX11_logt (s0 : RS) (s1 : RS) (s2 : RS) (s3 : RS) (s4 : RS) (s5 : RS) (b0 : Nat) (b2 : Nat) (b4 : Nat) (b5 : Nat) (f1 : Nat → Option Nat) (v1 : Int32) : Option (Int32 × RS × RS × RS × RS × (Nat → Option Nat)) :=
  (pX4_readLog s4 s3 s2 s5 v1).bind fun x1 =>
  if (x1.2.1.1 3) = 0 then
    (pX11_tell s0 (x1.2.2.1 0)).bind fun x2 =>
    some (x2.1, x2.2, x1.2.1, x1.1, x1.2.2, (va_up f1 1 (some b5)))
  else
    (pX11_refuse s0 (10 : Int32)).bind fun x3 =>
    some (x3.1, x3.2, x1.2.1, x1.1, x1.2.2, f1)
theorem pX11_logt_w (ho : xok [(11, b0), (7, (b0 + 8)), (0, b2), (8, (b0 + 2)), (4, b4), (3, b5)] h.2.1) (hq_1_0 : f1 0 = some b2) (hq_4_0 : f4 0 = some (b0 + 2)) (hq_4_1 : f4 1 = some b2) (hq_4_2 : f4 2 = some b5) (s0 : RS) (s1 : RS) (s2 : RS) (s3 : RS) (s4 : RS) (s5 : RS) (v1 : Int32) : aS l 8 MX11_log n0 S0 (oΦ (fun (x : Int32 × RS × RS × RS × RS × (Nat → Option Nat)) => ((some (.int x.1)), xw [(11, b0, f0, x.2.1), (7, (b0 + 8), x.2.2.2.2.2, s1), (0, b2, f2, s2), (8, (b0 + 2), f3, x.2.2.1), (4, b4, f4, x.2.2.2.1), (3, b5, f5, x.2.2.2.2.1)] h))) 46 [(0, .ref b0), (1, .int v1)] [.ref b4] (xw [(11, b0, f0, s0), (7, (b0 + 8), f1, s1), (0, b2, f2, s2), (8, (b0 + 2), f3, s3), (4, b4, f4, s4), (3, b5, f5, s5)] h) (pX11_logt s0 s1 s2 s3 s4 s5 b0 b2 b4 b5 f1 v1) := by
  unfold pX11_logt
  refine s_iload_n (pc := 46) 1 dX11_log_46 rfl ?_
  refine x_callV (M := MX11_log) (L := [(11, b0, f0, s0), (7, (b0 + 8), f1, s1), (0, b2, f2, s2), (8, (b0 + 2), f3, s3), (4, b4, f4, s4), (3, b5, f5, s5)]) (h := h) (j := 4) (As := [.int v1]) (st := []) (A := fun (x : RS × RS × RS) => some (.ref b5)) (Lc := [(4, b4, f4, s4), (8, (b0 + 2), f3, s3), (0, b2, f2, s2), (3, b5, f5, s5)]) (Lr := fun (x : RS × RS × RS) => [(4, b4, f4, x.1), (8, (b0 + 2), f3, x.2.1), (0, b2, f2, s2), (3, b5, f5, x.2.2)]) (L2 := fun (x : RS × RS × RS) => [(11, b0, f0, s0), (7, (b0 + 8), f1, s1), (0, b2, f2, s2), (8, (b0 + 2), f3, x.2.1), (4, b4, f4, x.1), (3, b5, f5, x.2.2)]) cv_X11_181 (by decide) (pc := 47) dX11_log_47 ho rfl xc0_4 rfl rfl (Nat.le_of_ble_eq_true rfl) (xovs (L := [(11, b0, f0, s0), (7, (b0 + 8), f1, s1), (0, b2, f2, s2), (8, (b0 + 2), f3, s3), (4, b4, f4, s4), (3, b5, f5, s5)]) (h := h) [(4, (4, b4, f4, s4)), (3, (8, (b0 + 2), f3, s3)), (2, (0, b2, f2, s2)), (5, (3, b5, f5, s5))] ho ⟨rfl, rfl, rfl, rfl, trivial⟩).1 (fun x => (xovs (L := [(11, b0, f0, s0), (7, (b0 + 8), f1, s1), (0, b2, f2, s2), (8, (b0 + 2), f3, s3), (4, b4, f4, s4), (3, b5, f5, s5)]) (h := h) [(4, (4, b4, f4, x.1)), (3, (8, (b0 + 2), f3, x.2.1)), (2, (0, b2, f2, s2)), (5, (3, b5, f5, x.2.2))] ho ⟨rfl, rfl, rfl, rfl, trivial⟩).1) (fun x hx => pX4_readLog_ok (h := xw [(11, b0, f0, s0), (7, (b0 + 8), f1, s1), (0, b2, f2, s2), (8, (b0 + 2), f3, s3), (4, b4, f4, s4), (3, b5, f5, s5)] h) (f0 := f4) (f1 := f3) (f2 := f2) (f3 := f5) (xok_sub ho [4, 3, 2, 5] rfl (by decide)) hq_4_0 hq_4_1 hq_4_2 s4 s3 s2 s5 v1 x hx) rfl (fun x1 _ => ?_)
  refine s_astore_n (lv' := [(2, .ref b5), (0, .ref b0), (1, .int v1)]) (pc := 50) dX11_log_50 (by decide) rfl ?_
  refine s_aload_n (pc := 51) 1 dX11_log_51 rfl ?_
  refine xg_X11_18 0 ho rfl (pc := 52) dX11_log_52 rfl ?_
  refine xg_X11_157 3 ho rfl (pc := 55) dX11_log_55 rfl ?_
  refine s_if_eq (tgt := 68) (pc := 58) dX11_log_58 (by decide) (fun _ => ?_) (fun _ => ?_)
  · refine s_aload_n (pc := 68) 1 dX11_log_68 rfl ?_
    refine xg_X11_25 0 ho rfl (pc := 69) dX11_log_69 rfl ?_
    refine s_aload_n (pc := 72) 0 dX11_log_72 rfl ?_
    refine xp_X11_185 (L2 := [(11, b0, f0, s0), (7, (b0 + 8), (va_up f1 1 (some b5)), s1), (0, b2, f2, s2), (8, (b0 + 2), f3, x1.2.1), (4, b4, f4, x1.1), (3, b5, f5, x1.2.2)]) 1 ho rfl rfl (pc := 73) dX11_log_73 rfl ?_
    refine s_aload_n (pc := 76) 1 dX11_log_76 rfl ?_
    refine s_aload_n (pc := 77) 0 dX11_log_77 rfl ?_
    refine xg_X11_189 5 ho rfl (pc := 78) dX11_log_78 rfl ?_
    refine x_callV (M := MX11_log) (L := [(11, b0, f0, s0), (7, (b0 + 8), (va_up f1 1 (some b5)), s1), (0, b2, f2, s2), (8, (b0 + 2), f3, x1.2.1), (4, b4, f4, x1.1), (3, b5, f5, x1.2.2)]) (h := h) (j := 0) (As := [.int (x1.2.2.1 0)]) (st := []) (A := fun (x : Int32 × RS) => some (.int x.1)) (Lc := [(11, b0, f0, s0)]) (Lr := fun (x : Int32 × RS) => [(11, b0, f0, x.2)]) (L2 := fun (x : Int32 × RS) => [(11, b0, f0, x.2), (7, (b0 + 8), (va_up f1 1 (some b5)), s1), (0, b2, f2, s2), (8, (b0 + 2), f3, x1.2.1), (4, b4, f4, x1.1), (3, b5, f5, x1.2.2)]) cv_X11_169 (by decide) (pc := 81) dX11_log_81 ho rfl xc0_11 rfl rfl (Nat.le_of_ble_eq_true rfl) (xovs (L := [(11, b0, f0, s0), (7, (b0 + 8), (va_up f1 1 (some b5)), s1), (0, b2, f2, s2), (8, (b0 + 2), f3, x1.2.1), (4, b4, f4, x1.1), (3, b5, f5, x1.2.2)]) (h := h) [(0, (11, b0, f0, s0))] ho ⟨rfl, trivial⟩).1 (fun x => (xovs (L := [(11, b0, f0, s0), (7, (b0 + 8), (va_up f1 1 (some b5)), s1), (0, b2, f2, s2), (8, (b0 + 2), f3, x1.2.1), (4, b4, f4, x1.1), (3, b5, f5, x1.2.2)]) (h := h) [(0, (11, b0, f0, x.2))] ho ⟨rfl, trivial⟩).1) (fun x hx => pX11_tell_ok (h := xw [(11, b0, f0, s0), (7, (b0 + 8), (va_up f1 1 (some b5)), s1), (0, b2, f2, s2), (8, (b0 + 2), f3, x1.2.1), (4, b4, f4, x1.1), (3, b5, f5, x1.2.2)] h) (f0 := f0) (xok_sub ho [0] rfl (by decide)) s0 (x1.2.2.1 0) x hx) rfl (fun x2 _ => ?_)
    exact s_iret (pc := 84) dX11_log_84 rfl (fun _ _ q => q)
  · refine s_aload_n (pc := 61) 1 dX11_log_61 rfl ?_
    refine s_bipush (v := 10) (pc := 62) dX11_log_62 (by decide) ?_
    refine x_callV (M := MX11_log) (L := [(11, b0, f0, s0), (7, (b0 + 8), f1, s1), (0, b2, f2, s2), (8, (b0 + 2), f3, x1.2.1), (4, b4, f4, x1.1), (3, b5, f5, x1.2.2)]) (h := h) (j := 0) (As := [.int 10]) (st := []) (A := fun (x : Int32 × RS) => some (.int x.1)) (Lc := [(11, b0, f0, s0)]) (Lr := fun (x : Int32 × RS) => [(11, b0, f0, x.2)]) (L2 := fun (x : Int32 × RS) => [(11, b0, f0, x.2), (7, (b0 + 8), f1, s1), (0, b2, f2, s2), (8, (b0 + 2), f3, x1.2.1), (4, b4, f4, x1.1), (3, b5, f5, x1.2.2)]) cv_X11_113 (by decide) (pc := 64) dX11_log_64 ho rfl xc0_11 rfl rfl (Nat.le_of_ble_eq_true rfl) (xovs (L := [(11, b0, f0, s0), (7, (b0 + 8), f1, s1), (0, b2, f2, s2), (8, (b0 + 2), f3, x1.2.1), (4, b4, f4, x1.1), (3, b5, f5, x1.2.2)]) (h := h) [(0, (11, b0, f0, s0))] ho ⟨rfl, trivial⟩).1 (fun x => (xovs (L := [(11, b0, f0, s0), (7, (b0 + 8), f1, s1), (0, b2, f2, s2), (8, (b0 + 2), f3, x1.2.1), (4, b4, f4, x1.1), (3, b5, f5, x1.2.2)]) (h := h) [(0, (11, b0, f0, x.2))] ho ⟨rfl, trivial⟩).1) (fun x hx => pX11_refuse_ok (h := xw [(11, b0, f0, s0), (7, (b0 + 8), f1, s1), (0, b2, f2, s2), (8, (b0 + 2), f3, x1.2.1), (4, b4, f4, x1.1), (3, b5, f5, x1.2.2)] h) (f0 := f0) (xok_sub ho [0] rfl (by decide)) s0 (10 : Int32) x hx) rfl (fun x3 _ => ?_)
    exact s_iret (pc := 67) dX11_log_67 rfl (fun _ _ q => q)
end
section
variable {l : Launch} {n0 S0 : Nat} {h : aH} {b0 b2 : Nat} {f0 f1 f2 : Nat → Option Nat}
abbrev MX11_leastOut : aM := (cX11_leastOut, RX11, 3, (some .int), false)
def pX11_leastOutE (s0 : RS) (s1 : RS) (s2 : RS) (a0 : Int32) : Option (Int32 × RS) :=
  (pX11_faultOfSet s0 s1 s2 a0).bind fun x1 =>
  if x1 = 0 then
    none
  else
    (pX11_refuse s0 x1).bind fun x2 =>
    some (x2.1, x2.2)
theorem pX11_leastOutE_w (ho : xok [(11, b0), (7, (b0 + 8)), (0, b2)] h.2.1) (hq_1_0 : f1 0 = some b2) (s0 : RS) (s1 : RS) (s2 : RS) (a0 : Int32) : aS l 4 MX11_leastOut n0 S0 (oΦ (fun (x : Int32 × RS) => ((some (.int x.1)), xw [(11, b0, f0, x.2), (7, (b0 + 8), f1, s1), (0, b2, f2, s2)] h))) 0 [(0, .ref b0), (1, .int a0)] [] (xw [(11, b0, f0, s0), (7, (b0 + 8), f1, s1), (0, b2, f2, s2)] h) (pX11_leastOutE s0 s1 s2 a0) := by
  unfold pX11_leastOutE
  refine s_aload_n (pc := 0) 0 dX11_leastOut_0 rfl ?_
  refine s_iload_n (pc := 1) 1 dX11_leastOut_1 rfl ?_
  refine x_callV (M := MX11_leastOut) (L := [(11, b0, f0, s0), (7, (b0 + 8), f1, s1), (0, b2, f2, s2)]) (h := h) (j := 0) (As := [.int a0]) (st := []) (A := fun (x : Int32) => some (.int x)) (Lc := [(11, b0, f0, s0), (7, (b0 + 8), f1, s1), (0, b2, f2, s2)]) (Lr := fun (x : Int32) => [(11, b0, f0, s0), (7, (b0 + 8), f1, s1), (0, b2, f2, s2)]) (L2 := fun (x : Int32) => [(11, b0, f0, s0), (7, (b0 + 8), f1, s1), (0, b2, f2, s2)]) cv_X11_262 (by decide) (pc := 2) dX11_leastOut_2 ho rfl xc0_11 rfl rfl (Nat.le_of_ble_eq_true rfl) (xovs (L := [(11, b0, f0, s0), (7, (b0 + 8), f1, s1), (0, b2, f2, s2)]) (h := h) [(0, (11, b0, f0, s0)), (1, (7, (b0 + 8), f1, s1)), (2, (0, b2, f2, s2))] ho ⟨rfl, rfl, rfl, trivial⟩).1 (fun x => (xovs (L := [(11, b0, f0, s0), (7, (b0 + 8), f1, s1), (0, b2, f2, s2)]) (h := h) [(0, (11, b0, f0, s0)), (1, (7, (b0 + 8), f1, s1)), (2, (0, b2, f2, s2))] ho ⟨rfl, rfl, rfl, trivial⟩).1) (fun x hx => pX11_faultOfSet_ok (h := xw [(11, b0, f0, s0), (7, (b0 + 8), f1, s1), (0, b2, f2, s2)] h) (f0 := f0) (f1 := f1) (f2 := f2) (xok_sub ho [0, 1, 2] rfl (by decide)) hq_1_0 s0 s1 s2 a0 x hx) rfl (fun x1 _ => ?_)
  refine s_istore_n (lv' := [(2, .int x1), (0, .ref b0), (1, .int a0)]) (pc := 5) dX11_leastOut_5 (by decide) rfl ?_
  refine s_iload_n (pc := 6) 0 dX11_leastOut_6 rfl ?_
  refine s_if_eq (tgt := 16) (pc := 7) dX11_leastOut_7 (by decide) (fun _ => ?_) (fun _ => ?_)
  · exact fun z hz => by cases hz
  · refine s_aload_n (pc := 10) 1 dX11_leastOut_10 rfl ?_
    refine s_iload_n (pc := 11) 0 dX11_leastOut_11 rfl ?_
    refine x_callV (M := MX11_leastOut) (L := [(11, b0, f0, s0), (7, (b0 + 8), f1, s1), (0, b2, f2, s2)]) (h := h) (j := 0) (As := [.int x1]) (st := []) (A := fun (x : Int32 × RS) => some (.int x.1)) (Lc := [(11, b0, f0, s0)]) (Lr := fun (x : Int32 × RS) => [(11, b0, f0, x.2)]) (L2 := fun (x : Int32 × RS) => [(11, b0, f0, x.2), (7, (b0 + 8), f1, s1), (0, b2, f2, s2)]) cv_X11_113 (by decide) (pc := 12) dX11_leastOut_12 ho rfl xc0_11 rfl rfl (Nat.le_of_ble_eq_true rfl) (xovs (L := [(11, b0, f0, s0), (7, (b0 + 8), f1, s1), (0, b2, f2, s2)]) (h := h) [(0, (11, b0, f0, s0))] ho ⟨rfl, trivial⟩).1 (fun x => (xovs (L := [(11, b0, f0, s0), (7, (b0 + 8), f1, s1), (0, b2, f2, s2)]) (h := h) [(0, (11, b0, f0, x.2))] ho ⟨rfl, trivial⟩).1) (fun x hx => pX11_refuse_ok (h := xw [(11, b0, f0, s0), (7, (b0 + 8), f1, s1), (0, b2, f2, s2)] h) (f0 := f0) (xok_sub ho [0] rfl (by decide)) s0 x1 x hx) rfl (fun x2 _ => ?_)
    exact s_iret (pc := 15) dX11_leastOut_15 rfl (fun _ _ q => q)
theorem pX11_leastOutE_ok (ho : xok [(11, b0), (7, (b0 + 8)), (0, b2)] h.2.1) (hq_1_0 : f1 0 = some b2) (s0 : RS) (s1 : RS) (s2 : RS) (a0 : Int32) : ∀ x, pX11_leastOutE s0 s1 s2 a0 = some x → aMet l 4 yX11_leastOut cX11_leastOut 3 (some .int) [.ref b0, .int a0] (xw [(11, b0, f0, s0), (7, (b0 + 8), f1, s1), (0, b2, f2, s2)] h) (some (.int x.1)) (xw [(11, b0, f0, x.2), (7, (b0 + 8), f1, s1), (0, b2, f2, s2)] h) := fun x hx => a_meth (ini := false) (y := yX11_leastOut) (by decide +kernel) (fun q => by cases q) (fun _ => Nat.le_of_ble_eq_true rfl) (pX11_leastOutE_w ho hq_1_0 s0 s1 s2 a0) x hx _ _ ⟨rfl, rfl⟩
end
section
variable {l : Launch} {n0 S0 : Nat} {h : aH} {b0 b2 : Nat} {f0 f1 f2 : Nat → Option Nat}
def pX11_leastOuth (s0 : RS) (s1 : RS) (s2 : RS) (a0 : Int32) : Option Int32 :=
  (pX11_faultOfSet s0 s1 s2 a0).bind fun x1 =>
  if x1 = 0 then
    some a0
  else
    none
theorem pX11_leastOuth_w (ho : xok [(11, b0), (7, (b0 + 8)), (0, b2)] h.2.1) (hq_1_0 : f1 0 = some b2) (s0 : RS) (s1 : RS) (s2 : RS) (a0 : Int32) : aS l 64 MX11_leastOut n0 S0 (fun (x : Int32) r h' => aEv l 64 MX11_leastOut n0 S0 17 [(0, .ref b0), (1, .int x)] [.ref b0] (xw [(11, b0, f0, s0), (7, (b0 + 8), f1, s1), (0, b2, f2, s2)] h) r h') 0 [(0, .ref b0), (1, .int a0)] [] (xw [(11, b0, f0, s0), (7, (b0 + 8), f1, s1), (0, b2, f2, s2)] h) (pX11_leastOuth s0 s1 s2 a0) := by
  unfold pX11_leastOuth
  refine s_aload_n (pc := 0) 0 dX11_leastOut_0 rfl ?_
  refine s_iload_n (pc := 1) 1 dX11_leastOut_1 rfl ?_
  refine x_callV (M := MX11_leastOut) (L := [(11, b0, f0, s0), (7, (b0 + 8), f1, s1), (0, b2, f2, s2)]) (h := h) (j := 0) (As := [.int a0]) (st := []) (A := fun (x : Int32) => some (.int x)) (Lc := [(11, b0, f0, s0), (7, (b0 + 8), f1, s1), (0, b2, f2, s2)]) (Lr := fun (x : Int32) => [(11, b0, f0, s0), (7, (b0 + 8), f1, s1), (0, b2, f2, s2)]) (L2 := fun (x : Int32) => [(11, b0, f0, s0), (7, (b0 + 8), f1, s1), (0, b2, f2, s2)]) cv_X11_262 (by decide) (pc := 2) dX11_leastOut_2 ho rfl xc0_11 rfl rfl (Nat.le_of_ble_eq_true rfl) (xovs (L := [(11, b0, f0, s0), (7, (b0 + 8), f1, s1), (0, b2, f2, s2)]) (h := h) [(0, (11, b0, f0, s0)), (1, (7, (b0 + 8), f1, s1)), (2, (0, b2, f2, s2))] ho ⟨rfl, rfl, rfl, trivial⟩).1 (fun x => (xovs (L := [(11, b0, f0, s0), (7, (b0 + 8), f1, s1), (0, b2, f2, s2)]) (h := h) [(0, (11, b0, f0, s0)), (1, (7, (b0 + 8), f1, s1)), (2, (0, b2, f2, s2))] ho ⟨rfl, rfl, rfl, trivial⟩).1) (fun x hx => pX11_faultOfSet_ok (h := xw [(11, b0, f0, s0), (7, (b0 + 8), f1, s1), (0, b2, f2, s2)] h) (f0 := f0) (f1 := f1) (f2 := f2) (xok_sub ho [0, 1, 2] rfl (by decide)) hq_1_0 s0 s1 s2 a0 x hx) rfl (fun x1 _ => ?_)
  refine s_istore_n (lv' := [(2, .int x1), (0, .ref b0), (1, .int a0)]) (pc := 5) dX11_leastOut_5 (by decide) rfl ?_
  refine s_iload_n (pc := 6) 0 dX11_leastOut_6 rfl ?_
  refine s_if_eq (tgt := 16) (pc := 7) dX11_leastOut_7 (by decide) (fun _ => ?_) (fun _ => ?_)
  · refine s_aload_n (pc := 16) 1 dX11_leastOut_16 rfl ?_
    refine s_sub [1, 2] rfl ?_
    exact s_ev (fun _ _ q => q)
  · exact fun z hz => by cases hz
end
section
variable {l : Launch} {n0 S0 : Nat} {h : aH} {b0 b2 r_new : Nat} {f0 f1 f2 : Nat → Option Nat}
def pX11_leastOutm (s0 : RS) (s1 : RS) (s2 : RS) (v1 : Int32) : Option Int32 :=
  some v1
theorem pX11_leastOutm_w (ho : xok [(11, b0), (7, (b0 + 8)), (0, b2)] h.2.1) (hq_1_0 : f1 0 = some b2) (s0 : RS) (s1 : RS) (s2 : RS) (v1 : Int32) : aS l 64 MX11_leastOut n0 S0 (fun (x : Int32) r h' => aEv l 64 MX11_leastOut n0 S0 29 [] [.int x, .ref b2, .ref r_new, .ref r_new, .ref b0] (xw [(11, b0, f0, s0), (7, (b0 + 8), f1, s1), (0, b2, f2, s2)] h) r h') 20 [(0, .ref b0), (1, .int v1)] [.ref r_new, .ref b0] (xw [(11, b0, f0, s0), (7, (b0 + 8), f1, s1), (0, b2, f2, s2)] h) (pX11_leastOutm s0 s1 s2 v1) := by
  unfold pX11_leastOutm
  refine s_dup (pc := 20) dX11_leastOut_20 rfl ?_
  refine s_aload_n (pc := 21) 0 dX11_leastOut_21 rfl ?_
  refine xg_X11_25 0 ho rfl (pc := 22) dX11_leastOut_22 rfl ?_
  refine xg_X11_174 1 ho rfl (pc := 25) dX11_leastOut_25 rfl hq_1_0 ?_
  refine s_iload_n (pc := 28) 1 dX11_leastOut_28 rfl ?_
  refine s_sub [] rfl ?_
  exact s_ev (fun _ _ q => q)
end
section
variable {l : Launch} {n0 S0 : Nat} {h : aH} {b0 b2 b3 : Nat} {f0 f1 f2 f3 : Nat → Option Nat}
def pX11_leastOutt (s0 : RS) (s1 : RS) (s2 : RS) (s3 : RS) : Option (Int32 × RS × RS) :=
  (pX6_fewestOut s3 s2).bind fun x1 =>
  (pX11_tell s0 x1.1).bind fun x2 =>
  some (x2.1, x2.2, x1.2)
theorem pX11_leastOutt_w (ho : xok [(11, b0), (7, (b0 + 8)), (0, b2), (6, b3)] h.2.1) (hq_1_0 : f1 0 = some b2) (hq_3_0 : f3 0 = some b2) (s0 : RS) (s1 : RS) (s2 : RS) (s3 : RS) : aS l 64 MX11_leastOut n0 S0 (oΦ (fun (x : Int32 × RS × RS) => ((some (.int x.1)), xw [(11, b0, f0, x.2.1), (7, (b0 + 8), f1, s1), (0, b2, f2, s2), (6, b3, f3, x.2.2)] h))) 32 [] [.ref b3, .ref b0] (xw [(11, b0, f0, s0), (7, (b0 + 8), f1, s1), (0, b2, f2, s2), (6, b3, f3, s3)] h) (pX11_leastOutt s0 s1 s2 s3) := by
  unfold pX11_leastOutt
  refine x_callV (M := MX11_leastOut) (L := [(11, b0, f0, s0), (7, (b0 + 8), f1, s1), (0, b2, f2, s2), (6, b3, f3, s3)]) (h := h) (j := 3) (As := []) (st := [.ref b0]) (A := fun (x : Int32 × RS) => some (.int x.1)) (Lc := [(6, b3, f3, s3), (0, b2, f2, s2)]) (Lr := fun (x : Int32 × RS) => [(6, b3, f3, x.2), (0, b2, f2, s2)]) (L2 := fun (x : Int32 × RS) => [(11, b0, f0, s0), (7, (b0 + 8), f1, s1), (0, b2, f2, s2), (6, b3, f3, x.2)]) cv_X11_315 (by decide) (pc := 32) dX11_leastOut_32 ho rfl xc0_6 rfl rfl (Nat.le_of_ble_eq_true rfl) (xovs (L := [(11, b0, f0, s0), (7, (b0 + 8), f1, s1), (0, b2, f2, s2), (6, b3, f3, s3)]) (h := h) [(3, (6, b3, f3, s3)), (2, (0, b2, f2, s2))] ho ⟨rfl, rfl, trivial⟩).1 (fun x => (xovs (L := [(11, b0, f0, s0), (7, (b0 + 8), f1, s1), (0, b2, f2, s2), (6, b3, f3, s3)]) (h := h) [(3, (6, b3, f3, x.2)), (2, (0, b2, f2, s2))] ho ⟨rfl, rfl, trivial⟩).1) (fun x hx => pX6_fewestOut_ok (h := xw [(11, b0, f0, s0), (7, (b0 + 8), f1, s1), (0, b2, f2, s2), (6, b3, f3, s3)] h) (f0 := f3) (f1 := f2) (xok_sub ho [3, 2] rfl (by decide)) hq_3_0 s3 s2 x hx) rfl (fun x1 _ => ?_)
  refine x_callV (M := MX11_leastOut) (L := [(11, b0, f0, s0), (7, (b0 + 8), f1, s1), (0, b2, f2, s2), (6, b3, f3, x1.2)]) (h := h) (j := 0) (As := [.int x1.1]) (st := []) (A := fun (x : Int32 × RS) => some (.int x.1)) (Lc := [(11, b0, f0, s0)]) (Lr := fun (x : Int32 × RS) => [(11, b0, f0, x.2)]) (L2 := fun (x : Int32 × RS) => [(11, b0, f0, x.2), (7, (b0 + 8), f1, s1), (0, b2, f2, s2), (6, b3, f3, x1.2)]) cv_X11_169 (by decide) (pc := 35) dX11_leastOut_35 ho rfl xc0_11 rfl rfl (Nat.le_of_ble_eq_true rfl) (xovs (L := [(11, b0, f0, s0), (7, (b0 + 8), f1, s1), (0, b2, f2, s2), (6, b3, f3, x1.2)]) (h := h) [(0, (11, b0, f0, s0))] ho ⟨rfl, trivial⟩).1 (fun x => (xovs (L := [(11, b0, f0, s0), (7, (b0 + 8), f1, s1), (0, b2, f2, s2), (6, b3, f3, x1.2)]) (h := h) [(0, (11, b0, f0, x.2))] ho ⟨rfl, trivial⟩).1) (fun x hx => pX11_tell_ok (h := xw [(11, b0, f0, s0), (7, (b0 + 8), f1, s1), (0, b2, f2, s2), (6, b3, f3, x1.2)] h) (f0 := f0) (xok_sub ho [0] rfl (by decide)) s0 x1.1 x hx) rfl (fun x2 _ => ?_)
  exact s_iret (pc := 38) dX11_leastOut_38 rfl (fun _ _ q => q)
end
section
variable {l : Launch} {n0 S0 : Nat} {h : aH} {b0 b2 r_new : Nat} {f0 f1 f2 : Nat → Option Nat}
abbrev MX11_mostQuiet : aM := (cX11_mostQuiet, RX11, 2, (some .int), false)
def pX11_mostQuietm (s0 : RS) (s1 : RS) (s2 : RS) : Option Int32 :=
  (pX0_wholeSet s2).bind fun x1 =>
  some x1
theorem pX11_mostQuietm_w (ho : xok [(11, b0), (7, (b0 + 8)), (0, b2)] h.2.1) (hq_1_0 : f1 0 = some b2) (s0 : RS) (s1 : RS) (s2 : RS) : aS l 64 MX11_mostQuiet n0 S0 (fun (x : Int32) r h' => aEv l 64 MX11_mostQuiet n0 S0 21 [(0, .ref b0)] [.int x, .ref b2, .ref r_new, .ref r_new] (xw [(11, b0, f0, s0), (7, (b0 + 8), f1, s1), (0, b2, f2, s2)] h) r h') 3 [(0, .ref b0)] [.ref r_new] (xw [(11, b0, f0, s0), (7, (b0 + 8), f1, s1), (0, b2, f2, s2)] h) (pX11_mostQuietm s0 s1 s2) := by
  unfold pX11_mostQuietm
  refine s_dup (pc := 3) dX11_mostQuiet_3 rfl ?_
  refine s_aload_n (pc := 4) 0 dX11_mostQuiet_4 rfl ?_
  refine xg_X11_25 0 ho rfl (pc := 5) dX11_mostQuiet_5 rfl ?_
  refine xg_X11_174 1 ho rfl (pc := 8) dX11_mostQuiet_8 rfl hq_1_0 ?_
  refine s_aload_n (pc := 11) 0 dX11_mostQuiet_11 rfl ?_
  refine xg_X11_25 0 ho rfl (pc := 12) dX11_mostQuiet_12 rfl ?_
  refine xg_X11_174 1 ho rfl (pc := 15) dX11_mostQuiet_15 rfl hq_1_0 ?_
  refine x_callV (M := MX11_mostQuiet) (L := [(11, b0, f0, s0), (7, (b0 + 8), f1, s1), (0, b2, f2, s2)]) (h := h) (j := 2) (As := []) (st := [.ref b2, .ref r_new, .ref r_new]) (A := fun (x : Int32) => some (.int x)) (Lc := [(0, b2, f2, s2)]) (Lr := fun (x : Int32) => [(0, b2, f2, s2)]) (L2 := fun (x : Int32) => [(11, b0, f0, s0), (7, (b0 + 8), f1, s1), (0, b2, f2, s2)]) cv_X11_318 (by decide) (pc := 18) dX11_mostQuiet_18 ho rfl xc0_0 rfl rfl (Nat.le_of_ble_eq_true rfl) (xovs (L := [(11, b0, f0, s0), (7, (b0 + 8), f1, s1), (0, b2, f2, s2)]) (h := h) [(2, (0, b2, f2, s2))] ho ⟨rfl, trivial⟩).1 (fun x => (xovs (L := [(11, b0, f0, s0), (7, (b0 + 8), f1, s1), (0, b2, f2, s2)]) (h := h) [(2, (0, b2, f2, s2))] ho ⟨rfl, trivial⟩).1) (fun x hx => pX0_wholeSet_ok (h := xw [(11, b0, f0, s0), (7, (b0 + 8), f1, s1), (0, b2, f2, s2)] h) (f0 := f2) (xok_sub ho [2] rfl (by decide)) s2 x hx) rfl (fun x1 _ => ?_)
  exact s_ev (fun _ _ q => q)
end
section
variable {l : Launch} {n0 S0 : Nat} {h : aH} {b0 b2 b3 : Nat} {f0 f1 f2 f3 : Nat → Option Nat}
def pX11_mostQuiett (s0 : RS) (s1 : RS) (s2 : RS) (s3 : RS) : Option (Int32 × RS × RS) :=
  (pX6_fewestOut s3 s2).bind fun x1 =>
  (pJ6_bitCount_0f7a4 x1.1).bind fun x2 =>
  (pX11_tell s0 ((s2.1 1) - x2)).bind fun x3 =>
  some (x3.1, x3.2, x1.2)
theorem pX11_mostQuiett_w (ho : xok [(11, b0), (7, (b0 + 8)), (0, b2), (6, b3)] h.2.1) (hq_1_0 : f1 0 = some b2) (hq_3_0 : f3 0 = some b2) (s0 : RS) (s1 : RS) (s2 : RS) (s3 : RS) : aS l 64 MX11_mostQuiet n0 S0 (oΦ (fun (x : Int32 × RS × RS) => ((some (.int x.1)), xw [(11, b0, f0, x.2.1), (7, (b0 + 8), f1, s1), (0, b2, f2, s2), (6, b3, f3, x.2.2)] h))) 24 [(0, .ref b0)] [.ref b3] (xw [(11, b0, f0, s0), (7, (b0 + 8), f1, s1), (0, b2, f2, s2), (6, b3, f3, s3)] h) (pX11_mostQuiett s0 s1 s2 s3) := by
  unfold pX11_mostQuiett
  refine x_callV (M := MX11_mostQuiet) (L := [(11, b0, f0, s0), (7, (b0 + 8), f1, s1), (0, b2, f2, s2), (6, b3, f3, s3)]) (h := h) (j := 3) (As := []) (st := []) (A := fun (x : Int32 × RS) => some (.int x.1)) (Lc := [(6, b3, f3, s3), (0, b2, f2, s2)]) (Lr := fun (x : Int32 × RS) => [(6, b3, f3, x.2), (0, b2, f2, s2)]) (L2 := fun (x : Int32 × RS) => [(11, b0, f0, s0), (7, (b0 + 8), f1, s1), (0, b2, f2, s2), (6, b3, f3, x.2)]) cv_X11_315 (by decide) (pc := 24) dX11_mostQuiet_24 ho rfl xc0_6 rfl rfl (Nat.le_of_ble_eq_true rfl) (xovs (L := [(11, b0, f0, s0), (7, (b0 + 8), f1, s1), (0, b2, f2, s2), (6, b3, f3, s3)]) (h := h) [(3, (6, b3, f3, s3)), (2, (0, b2, f2, s2))] ho ⟨rfl, rfl, trivial⟩).1 (fun x => (xovs (L := [(11, b0, f0, s0), (7, (b0 + 8), f1, s1), (0, b2, f2, s2), (6, b3, f3, s3)]) (h := h) [(3, (6, b3, f3, x.2)), (2, (0, b2, f2, s2))] ho ⟨rfl, rfl, trivial⟩).1) (fun x hx => pX6_fewestOut_ok (h := xw [(11, b0, f0, s0), (7, (b0 + 8), f1, s1), (0, b2, f2, s2), (6, b3, f3, s3)] h) (f0 := f3) (f1 := f2) (xok_sub ho [3, 2] rfl (by decide)) hq_3_0 s3 s2 x hx) rfl (fun x1 _ => ?_)
  refine s_istore_n (lv' := [(1, .int x1.1), (0, .ref b0)]) (pc := 27) dX11_mostQuiet_27 (by decide) rfl ?_
  refine s_aload_n (pc := 28) 1 dX11_mostQuiet_28 rfl ?_
  refine s_aload_n (pc := 29) 1 dX11_mostQuiet_29 rfl ?_
  refine xg_X11_25 0 ho rfl (pc := 30) dX11_mostQuiet_30 rfl ?_
  refine xg_X11_174 1 ho rfl (pc := 33) dX11_mostQuiet_33 rfl hq_1_0 ?_
  refine xg_X11_164 2 ho rfl (pc := 36) dX11_mostQuiet_36 rfl ?_
  refine s_iload_n (pc := 39) 0 dX11_mostQuiet_39 rfl ?_
  refine s_callS (M := MX11_mostQuiet) (As := [.int x1.1]) (st := [.int (s2.1 1), .ref b0]) (Ψ := fun (x : Int32) => (some (.int x), xw [(11, b0, f0, s0), (7, (b0 + 8), f1, s1), (0, b2, f2, s2), (6, b3, f3, x1.2)] h)) cs_X11_203 (by decide) (pc := 40) dX11_mostQuiet_40 rfl (Nat.le_of_ble_eq_true rfl) (fun x hx => pJ6_bitCount_0f7a4_ok x1.1 x hx) rfl (fun x2 _ => ?_)
  refine s_isub (pc := 43) dX11_mostQuiet_43 ?_
  refine x_callV (M := MX11_mostQuiet) (L := [(11, b0, f0, s0), (7, (b0 + 8), f1, s1), (0, b2, f2, s2), (6, b3, f3, x1.2)]) (h := h) (j := 0) (As := [.int ((s2.1 1) - x2)]) (st := []) (A := fun (x : Int32 × RS) => some (.int x.1)) (Lc := [(11, b0, f0, s0)]) (Lr := fun (x : Int32 × RS) => [(11, b0, f0, x.2)]) (L2 := fun (x : Int32 × RS) => [(11, b0, f0, x.2), (7, (b0 + 8), f1, s1), (0, b2, f2, s2), (6, b3, f3, x1.2)]) cv_X11_169 (by decide) (pc := 44) dX11_mostQuiet_44 ho rfl xc0_11 rfl rfl (Nat.le_of_ble_eq_true rfl) (xovs (L := [(11, b0, f0, s0), (7, (b0 + 8), f1, s1), (0, b2, f2, s2), (6, b3, f3, x1.2)]) (h := h) [(0, (11, b0, f0, s0))] ho ⟨rfl, trivial⟩).1 (fun x => (xovs (L := [(11, b0, f0, s0), (7, (b0 + 8), f1, s1), (0, b2, f2, s2), (6, b3, f3, x1.2)]) (h := h) [(0, (11, b0, f0, x.2))] ho ⟨rfl, trivial⟩).1) (fun x hx => pX11_tell_ok (h := xw [(11, b0, f0, s0), (7, (b0 + 8), f1, s1), (0, b2, f2, s2), (6, b3, f3, x1.2)] h) (f0 := f0) (xok_sub ho [0] rfl (by decide)) s0 ((s2.1 1) - x2) x hx) rfl (fun x3 _ => ?_)
  exact s_iret (pc := 47) dX11_mostQuiet_47 rfl (fun _ _ q => q)
end
section
variable {l : Launch} {n0 S0 : Nat} {h : aH} {b0 : Nat} {f0 : Nat → Option Nat}
abbrev MX11_mark : aM := (cX11_mark, RX11, 1, (some .int), false)
def pX11_markE (s0 : RS) : Option (Int32 × RS) :=
  if (s0.1 10) < (3 : Int32) then
    none
  else
    (pX11_refuse s0 (7 : Int32)).bind fun x1 =>
    some (x1.1, x1.2)
theorem pX11_markE_w (ho : xok [(11, b0)] h.2.1) (s0 : RS) : aS l 1 MX11_mark n0 S0 (oΦ (fun (x : Int32 × RS) => ((some (.int x.1)), xw [(11, b0, f0, x.2)] h))) 0 [(0, .ref b0)] [] (xw [(11, b0, f0, s0)] h) (pX11_markE s0) := by
  unfold pX11_markE
  refine s_aload_n (pc := 0) 0 dX11_mark_0 rfl ?_
  refine xg_X11_65 0 ho rfl (pc := 1) dX11_mark_1 rfl ?_
  refine s_iconst (v := 3) (pc := 4) dX11_mark_4 (by decide) ?_
  refine s_icmp_lt (tgt := 15) (pc := 5) dX11_mark_5 (by decide) (fun _ => ?_) (fun _ => ?_)
  · exact fun z hz => by cases hz
  · refine s_aload_n (pc := 8) 0 dX11_mark_8 rfl ?_
    refine s_bipush (v := 7) (pc := 9) dX11_mark_9 (by decide) ?_
    refine x_callV (M := MX11_mark) (L := [(11, b0, f0, s0)]) (h := h) (j := 0) (As := [.int 7]) (st := []) (A := fun (x : Int32 × RS) => some (.int x.1)) (Lc := [(11, b0, f0, s0)]) (Lr := fun (x : Int32 × RS) => [(11, b0, f0, x.2)]) (L2 := fun (x : Int32 × RS) => [(11, b0, f0, x.2)]) cv_X11_113 (by decide) (pc := 11) dX11_mark_11 ho rfl xc0_11 rfl rfl (Nat.le_of_ble_eq_true rfl) (xovs (L := [(11, b0, f0, s0)]) (h := h) [(0, (11, b0, f0, s0))] ho ⟨rfl, trivial⟩).1 (fun x => (xovs (L := [(11, b0, f0, s0)]) (h := h) [(0, (11, b0, f0, x.2))] ho ⟨rfl, trivial⟩).1) (fun x hx => pX11_refuse_ok (h := xw [(11, b0, f0, s0)] h) (f0 := f0) (xok_sub ho [0] rfl (by decide)) s0 (7 : Int32) x hx) rfl (fun x1 _ => ?_)
    exact s_iret (pc := 14) dX11_mark_14 rfl (fun _ _ q => q)
theorem pX11_markE_ok (ho : xok [(11, b0)] h.2.1) (s0 : RS) : ∀ x, pX11_markE s0 = some x → aMet l 1 yX11_mark cX11_mark 1 (some .int) [.ref b0] (xw [(11, b0, f0, s0)] h) (some (.int x.1)) (xw [(11, b0, f0, x.2)] h) := fun x hx => a_meth (ini := false) (y := yX11_mark) (by decide +kernel) (fun q => by cases q) (fun _ => Nat.le_of_ble_eq_true rfl) (pX11_markE_w ho s0) x hx _ _ ⟨rfl, rfl⟩
end
section
variable {l : Launch} {n0 S0 : Nat} {h : aH} {b0 : Nat} {f0 : Nat → Option Nat}
def pX11_markh (s0 : RS) : Option Int32 :=
  if (s0.1 10) < (3 : Int32) then
    some (s0.1 10)
  else
    none
theorem pX11_markh_w (ho : xok [(11, b0)] h.2.1) (s0 : RS) : aS l 4 MX11_mark n0 S0 (fun (x : Int32) r h' => aEv l 4 MX11_mark n0 S0 23 [(0, .ref b0)] [.int x, .ref (b0 + 25)] (xw [(11, b0, f0, s0)] h) r h') 0 [(0, .ref b0)] [] (xw [(11, b0, f0, s0)] h) (pX11_markh s0) := by
  unfold pX11_markh
  refine s_aload_n (pc := 0) 0 dX11_mark_0 rfl ?_
  refine xg_X11_65 0 ho rfl (pc := 1) dX11_mark_1 rfl ?_
  refine s_iconst (v := 3) (pc := 4) dX11_mark_4 (by decide) ?_
  refine s_icmp_lt (tgt := 15) (pc := 5) dX11_mark_5 (by decide) (fun _ => ?_) (fun _ => ?_)
  · refine s_aload_n (pc := 15) 0 dX11_mark_15 rfl ?_
    refine xg_X11_29 0 ho rfl (pc := 16) dX11_mark_16 rfl ?_
    refine s_aload_n (pc := 19) 0 dX11_mark_19 rfl ?_
    refine xg_X11_65 0 ho rfl (pc := 20) dX11_mark_20 rfl ?_
    exact s_ev (fun _ _ q => q)
  · exact fun z hz => by cases hz
end
section
variable {l : Launch} {n0 S0 : Nat} {h : aH} {b0 b2 b3 b4 : Nat} {f0 f1 f2 f3 f4 : Nat → Option Nat}
def pX11_markt (s0 : RS) (s1 : RS) (s2 : RS) (s3 : RS) (s4 : RS) : Option (Int32 × RS × RS) :=
  (pX7_copyFrom s4 s1 s2 s3).bind fun x1 =>
  thn (uI s0 10 ((s0.1 10) + (1 : Int32))) fun s_2 =>
  (pX11_tell s_2 (s_2.1 10)).bind fun x3 =>
  some (x3.1, x3.2, x1)
theorem pX11_markt_w (ho : xok [(11, b0), (7, (b0 + 8)), (0, b2), (3, b3), (7, b4)] h.2.1) (hq_1_0 : f1 0 = some b2) (hq_1_1 : f1 1 = some b3) (s0 : RS) (s1 : RS) (s2 : RS) (s3 : RS) (s4 : RS) : aS l 4 MX11_mark n0 S0 (oΦ (fun (x : Int32 × RS × RS) => ((some (.int x.1)), xw [(11, b0, f0, x.2.1), (7, (b0 + 8), f1, s1), (0, b2, f2, s2), (3, b3, f3, s3), (7, b4, (va_up (va_up f4 0 (some b2)) 1 (some b3)), x.2.2)] h))) 24 [(0, .ref b0)] [.ref b4] (xw [(11, b0, f0, s0), (7, (b0 + 8), f1, s1), (0, b2, f2, s2), (3, b3, f3, s3), (7, b4, f4, s4)] h) (pX11_markt s0 s1 s2 s3 s4) := by
  unfold pX11_markt
  refine s_aload_n (pc := 24) 0 dX11_mark_24 rfl ?_
  refine xg_X11_25 0 ho rfl (pc := 25) dX11_mark_25 rfl ?_
  refine x_callV (M := MX11_mark) (L := [(11, b0, f0, s0), (7, (b0 + 8), f1, s1), (0, b2, f2, s2), (3, b3, f3, s3), (7, b4, f4, s4)]) (h := h) (j := 4) (As := [.ref (b0 + 8)]) (st := []) (A := fun (x : RS) => none) (Lc := [(7, b4, f4, s4), (7, (b0 + 8), f1, s1), (0, b2, f2, s2), (3, b3, f3, s3)]) (Lr := fun (x : RS) => [(7, b4, (va_up (va_up f4 0 (some b2)) 1 (some b3)), x), (7, (b0 + 8), f1, s1), (0, b2, f2, s2), (3, b3, f3, s3)]) (L2 := fun (x : RS) => [(11, b0, f0, s0), (7, (b0 + 8), f1, s1), (0, b2, f2, s2), (3, b3, f3, s3), (7, b4, (va_up (va_up f4 0 (some b2)) 1 (some b3)), x)]) cv_X11_423 (by decide) (pc := 28) dX11_mark_28 ho rfl xc0_7 rfl rfl (Nat.le_of_ble_eq_true rfl) (xovs (L := [(11, b0, f0, s0), (7, (b0 + 8), f1, s1), (0, b2, f2, s2), (3, b3, f3, s3), (7, b4, f4, s4)]) (h := h) [(4, (7, b4, f4, s4)), (1, (7, (b0 + 8), f1, s1)), (2, (0, b2, f2, s2)), (3, (3, b3, f3, s3))] ho ⟨rfl, rfl, rfl, rfl, trivial⟩).1 (fun x => (xovs (L := [(11, b0, f0, s0), (7, (b0 + 8), f1, s1), (0, b2, f2, s2), (3, b3, f3, s3), (7, b4, f4, s4)]) (h := h) [(4, (7, b4, (va_up (va_up f4 0 (some b2)) 1 (some b3)), x)), (1, (7, (b0 + 8), f1, s1)), (2, (0, b2, f2, s2)), (3, (3, b3, f3, s3))] ho ⟨rfl, rfl, rfl, rfl, trivial⟩).1) (fun x hx => pX7_copyFrom_ok (h := xw [(11, b0, f0, s0), (7, (b0 + 8), f1, s1), (0, b2, f2, s2), (3, b3, f3, s3), (7, b4, f4, s4)] h) (f0 := f4) (f1 := f1) (f2 := f2) (f3 := f3) (xok_sub ho [4, 1, 2, 3] rfl (by decide)) hq_1_0 hq_1_1 s4 s1 s2 s3 x hx) rfl (fun x1 _ => ?_)
  refine s_aload_n (pc := 31) 0 dX11_mark_31 rfl ?_
  refine s_dup (pc := 32) dX11_mark_32 rfl ?_
  refine xg_X11_65 0 ho rfl (pc := 33) dX11_mark_33 rfl ?_
  refine s_iconst (v := 1) (pc := 36) dX11_mark_36 (by decide) ?_
  refine s_iadd (pc := 37) dX11_mark_37 ?_
  refine xp_X11_65 (L' := fun s_2 => [(11, b0, f0, s_2), (7, (b0 + 8), f1, s1), (0, b2, f2, s2), (3, b3, f3, s3), (7, b4, (va_up (va_up f4 0 (some b2)) 1 (some b3)), x1)]) 0 ho rfl (fun _ => rfl) (pc := 38) dX11_mark_38 rfl (fun s_2 => ?_)
  refine s_aload_n (pc := 41) 0 dX11_mark_41 rfl ?_
  refine s_aload_n (pc := 42) 0 dX11_mark_42 rfl ?_
  refine xg_X11_65 0 ho rfl (pc := 43) dX11_mark_43 rfl ?_
  refine x_callV (M := MX11_mark) (L := [(11, b0, f0, s_2), (7, (b0 + 8), f1, s1), (0, b2, f2, s2), (3, b3, f3, s3), (7, b4, (va_up (va_up f4 0 (some b2)) 1 (some b3)), x1)]) (h := h) (j := 0) (As := [.int (s_2.1 10)]) (st := []) (A := fun (x : Int32 × RS) => some (.int x.1)) (Lc := [(11, b0, f0, s_2)]) (Lr := fun (x : Int32 × RS) => [(11, b0, f0, x.2)]) (L2 := fun (x : Int32 × RS) => [(11, b0, f0, x.2), (7, (b0 + 8), f1, s1), (0, b2, f2, s2), (3, b3, f3, s3), (7, b4, (va_up (va_up f4 0 (some b2)) 1 (some b3)), x1)]) cv_X11_169 (by decide) (pc := 46) dX11_mark_46 ho rfl xc0_11 rfl rfl (Nat.le_of_ble_eq_true rfl) (xovs (L := [(11, b0, f0, s_2), (7, (b0 + 8), f1, s1), (0, b2, f2, s2), (3, b3, f3, s3), (7, b4, (va_up (va_up f4 0 (some b2)) 1 (some b3)), x1)]) (h := h) [(0, (11, b0, f0, s_2))] ho ⟨rfl, trivial⟩).1 (fun x => (xovs (L := [(11, b0, f0, s_2), (7, (b0 + 8), f1, s1), (0, b2, f2, s2), (3, b3, f3, s3), (7, b4, (va_up (va_up f4 0 (some b2)) 1 (some b3)), x1)]) (h := h) [(0, (11, b0, f0, x.2))] ho ⟨rfl, trivial⟩).1) (fun x hx => pX11_tell_ok (h := xw [(11, b0, f0, s_2), (7, (b0 + 8), f1, s1), (0, b2, f2, s2), (3, b3, f3, s3), (7, b4, (va_up (va_up f4 0 (some b2)) 1 (some b3)), x1)] h) (f0 := f0) (xok_sub ho [0] rfl (by decide)) s_2 (s_2.1 10) x hx) rfl (fun x3 _ => ?_)
  exact s_iret (pc := 49) dX11_mark_49 rfl (fun _ _ q => q)
end
section
variable {l : Launch} {n0 S0 : Nat} {h : aH} {b0 b2 b3 : Nat} {f0 f1 f2 f3 : Nat → Option Nat}
def pX11_marktN (s0 : RS) (s1 : RS) (s2 : RS) (s3 : RS) : Option (Int32 × RS × RS) :=
  (pX7_copyFromN s3 s1 s2).bind fun x1 =>
  thn (uI s0 10 ((s0.1 10) + (1 : Int32))) fun s_2 =>
  (pX11_tell s_2 (s_2.1 10)).bind fun x3 =>
  some (x3.1, x3.2, x1)
theorem pX11_marktN_w (ho : xok [(11, b0), (7, (b0 + 8)), (0, b2), (7, b3)] h.2.1) (hq_1_0 : f1 0 = some b2) (hq_1_1 : f1 1 = none) (s0 : RS) (s1 : RS) (s2 : RS) (s3 : RS) : aS l 4 MX11_mark n0 S0 (oΦ (fun (x : Int32 × RS × RS) => ((some (.int x.1)), xw [(11, b0, f0, x.2.1), (7, (b0 + 8), f1, s1), (0, b2, f2, s2), (7, b3, (va_up (va_up f3 0 (some b2)) 1 none), x.2.2)] h))) 24 [(0, .ref b0)] [.ref b3] (xw [(11, b0, f0, s0), (7, (b0 + 8), f1, s1), (0, b2, f2, s2), (7, b3, f3, s3)] h) (pX11_marktN s0 s1 s2 s3) := by
  unfold pX11_marktN
  refine s_aload_n (pc := 24) 0 dX11_mark_24 rfl ?_
  refine xg_X11_25 0 ho rfl (pc := 25) dX11_mark_25 rfl ?_
  refine x_callV (M := MX11_mark) (L := [(11, b0, f0, s0), (7, (b0 + 8), f1, s1), (0, b2, f2, s2), (7, b3, f3, s3)]) (h := h) (j := 3) (As := [.ref (b0 + 8)]) (st := []) (A := fun (x : RS) => none) (Lc := [(7, b3, f3, s3), (7, (b0 + 8), f1, s1), (0, b2, f2, s2)]) (Lr := fun (x : RS) => [(7, b3, (va_up (va_up f3 0 (some b2)) 1 none), x), (7, (b0 + 8), f1, s1), (0, b2, f2, s2)]) (L2 := fun (x : RS) => [(11, b0, f0, s0), (7, (b0 + 8), f1, s1), (0, b2, f2, s2), (7, b3, (va_up (va_up f3 0 (some b2)) 1 none), x)]) cv_X11_423 (by decide) (pc := 28) dX11_mark_28 ho rfl xc0_7 rfl rfl (Nat.le_of_ble_eq_true rfl) (xovs (L := [(11, b0, f0, s0), (7, (b0 + 8), f1, s1), (0, b2, f2, s2), (7, b3, f3, s3)]) (h := h) [(3, (7, b3, f3, s3)), (1, (7, (b0 + 8), f1, s1)), (2, (0, b2, f2, s2))] ho ⟨rfl, rfl, rfl, trivial⟩).1 (fun x => (xovs (L := [(11, b0, f0, s0), (7, (b0 + 8), f1, s1), (0, b2, f2, s2), (7, b3, f3, s3)]) (h := h) [(3, (7, b3, (va_up (va_up f3 0 (some b2)) 1 none), x)), (1, (7, (b0 + 8), f1, s1)), (2, (0, b2, f2, s2))] ho ⟨rfl, rfl, rfl, trivial⟩).1) (fun x hx => pX7_copyFromN_ok (h := xw [(11, b0, f0, s0), (7, (b0 + 8), f1, s1), (0, b2, f2, s2), (7, b3, f3, s3)] h) (f0 := f3) (f1 := f1) (f2 := f2) (xok_sub ho [3, 1, 2] rfl (by decide)) hq_1_0 hq_1_1 s3 s1 s2 x hx) rfl (fun x1 _ => ?_)
  refine s_aload_n (pc := 31) 0 dX11_mark_31 rfl ?_
  refine s_dup (pc := 32) dX11_mark_32 rfl ?_
  refine xg_X11_65 0 ho rfl (pc := 33) dX11_mark_33 rfl ?_
  refine s_iconst (v := 1) (pc := 36) dX11_mark_36 (by decide) ?_
  refine s_iadd (pc := 37) dX11_mark_37 ?_
  refine xp_X11_65 (L' := fun s_2 => [(11, b0, f0, s_2), (7, (b0 + 8), f1, s1), (0, b2, f2, s2), (7, b3, (va_up (va_up f3 0 (some b2)) 1 none), x1)]) 0 ho rfl (fun _ => rfl) (pc := 38) dX11_mark_38 rfl (fun s_2 => ?_)
  refine s_aload_n (pc := 41) 0 dX11_mark_41 rfl ?_
  refine s_aload_n (pc := 42) 0 dX11_mark_42 rfl ?_
  refine xg_X11_65 0 ho rfl (pc := 43) dX11_mark_43 rfl ?_
  refine x_callV (M := MX11_mark) (L := [(11, b0, f0, s_2), (7, (b0 + 8), f1, s1), (0, b2, f2, s2), (7, b3, (va_up (va_up f3 0 (some b2)) 1 none), x1)]) (h := h) (j := 0) (As := [.int (s_2.1 10)]) (st := []) (A := fun (x : Int32 × RS) => some (.int x.1)) (Lc := [(11, b0, f0, s_2)]) (Lr := fun (x : Int32 × RS) => [(11, b0, f0, x.2)]) (L2 := fun (x : Int32 × RS) => [(11, b0, f0, x.2), (7, (b0 + 8), f1, s1), (0, b2, f2, s2), (7, b3, (va_up (va_up f3 0 (some b2)) 1 none), x1)]) cv_X11_169 (by decide) (pc := 46) dX11_mark_46 ho rfl xc0_11 rfl rfl (Nat.le_of_ble_eq_true rfl) (xovs (L := [(11, b0, f0, s_2), (7, (b0 + 8), f1, s1), (0, b2, f2, s2), (7, b3, (va_up (va_up f3 0 (some b2)) 1 none), x1)]) (h := h) [(0, (11, b0, f0, s_2))] ho ⟨rfl, trivial⟩).1 (fun x => (xovs (L := [(11, b0, f0, s_2), (7, (b0 + 8), f1, s1), (0, b2, f2, s2), (7, b3, (va_up (va_up f3 0 (some b2)) 1 none), x1)]) (h := h) [(0, (11, b0, f0, x.2))] ho ⟨rfl, trivial⟩).1) (fun x hx => pX11_tell_ok (h := xw [(11, b0, f0, s_2), (7, (b0 + 8), f1, s1), (0, b2, f2, s2), (7, b3, (va_up (va_up f3 0 (some b2)) 1 none), x1)] h) (f0 := f0) (xok_sub ho [0] rfl (by decide)) s_2 (s_2.1 10) x hx) rfl (fun x3 _ => ?_)
  exact s_iret (pc := 49) dX11_mark_49 rfl (fun _ _ q => q)
end
section
variable {l : Launch} {n0 S0 : Nat} {h : aH} {b0 : Nat} {f0 : Nat → Option Nat}
abbrev MX11_back : aM := (cX11_back, RX11, 1, (some .int), false)
def pX11_backE (s0 : RS) : Option (Int32 × RS) :=
  if 0 < (s0.1 10) then
    none
  else
    (pX11_refuse s0 (8 : Int32)).bind fun x1 =>
    some (x1.1, x1.2)
theorem pX11_backE_w (ho : xok [(11, b0)] h.2.1) (s0 : RS) : aS l 1 MX11_back n0 S0 (oΦ (fun (x : Int32 × RS) => ((some (.int x.1)), xw [(11, b0, f0, x.2)] h))) 0 [(0, .ref b0)] [] (xw [(11, b0, f0, s0)] h) (pX11_backE s0) := by
  unfold pX11_backE
  refine s_aload_n (pc := 0) 0 dX11_back_0 rfl ?_
  refine xg_X11_65 0 ho rfl (pc := 1) dX11_back_1 rfl ?_
  refine s_if_gt (tgt := 14) (pc := 4) dX11_back_4 (by decide) (fun _ => ?_) (fun _ => ?_)
  · exact fun z hz => by cases hz
  · refine s_aload_n (pc := 7) 0 dX11_back_7 rfl ?_
    refine s_bipush (v := 8) (pc := 8) dX11_back_8 (by decide) ?_
    refine x_callV (M := MX11_back) (L := [(11, b0, f0, s0)]) (h := h) (j := 0) (As := [.int 8]) (st := []) (A := fun (x : Int32 × RS) => some (.int x.1)) (Lc := [(11, b0, f0, s0)]) (Lr := fun (x : Int32 × RS) => [(11, b0, f0, x.2)]) (L2 := fun (x : Int32 × RS) => [(11, b0, f0, x.2)]) cv_X11_113 (by decide) (pc := 10) dX11_back_10 ho rfl xc0_11 rfl rfl (Nat.le_of_ble_eq_true rfl) (xovs (L := [(11, b0, f0, s0)]) (h := h) [(0, (11, b0, f0, s0))] ho ⟨rfl, trivial⟩).1 (fun x => (xovs (L := [(11, b0, f0, s0)]) (h := h) [(0, (11, b0, f0, x.2))] ho ⟨rfl, trivial⟩).1) (fun x hx => pX11_refuse_ok (h := xw [(11, b0, f0, s0)] h) (f0 := f0) (xok_sub ho [0] rfl (by decide)) s0 (8 : Int32) x hx) rfl (fun x1 _ => ?_)
    exact s_iret (pc := 13) dX11_back_13 rfl (fun _ _ q => q)
theorem pX11_backE_ok (ho : xok [(11, b0)] h.2.1) (s0 : RS) : ∀ x, pX11_backE s0 = some x → aMet l 1 yX11_back cX11_back 1 (some .int) [.ref b0] (xw [(11, b0, f0, s0)] h) (some (.int x.1)) (xw [(11, b0, f0, x.2)] h) := fun x hx => a_meth (ini := false) (y := yX11_back) (by decide +kernel) (fun q => by cases q) (fun _ => Nat.le_of_ble_eq_true rfl) (pX11_backE_w ho s0) x hx _ _ ⟨rfl, rfl⟩
end
section
variable {l : Launch} {n0 S0 : Nat} {h : aH} {b0 : Nat} {f0 f1 : Nat → Option Nat}
def pX11_backh (s0 : RS) (s1 : RS) : Option (Int32 × RS) :=
  if 0 < (s0.1 10) then
    thn (uI s0 10 ((s0.1 10) - (1 : Int32))) fun s_1 =>
    some ((s_1.1 10), s_1)
  else
    none
theorem pX11_backh_w (ho : xok [(11, b0), (7, (b0 + 8))] h.2.1) (s0 : RS) (s1 : RS) : aS l 4 MX11_back n0 S0 (fun (x : Int32 × RS) r h' => aEv l 4 MX11_back n0 S0 36 [(0, .ref b0)] [.int x.1, .ref (b0 + 25), .ref (b0 + 8)] (xw [(11, b0, f0, x.2), (7, (b0 + 8), f1, s1)] h) r h') 0 [(0, .ref b0)] [] (xw [(11, b0, f0, s0), (7, (b0 + 8), f1, s1)] h) (pX11_backh s0 s1) := by
  unfold pX11_backh
  refine s_aload_n (pc := 0) 0 dX11_back_0 rfl ?_
  refine xg_X11_65 0 ho rfl (pc := 1) dX11_back_1 rfl ?_
  refine s_if_gt (tgt := 14) (pc := 4) dX11_back_4 (by decide) (fun _ => ?_) (fun _ => ?_)
  · refine s_aload_n (pc := 14) 0 dX11_back_14 rfl ?_
    refine s_dup (pc := 15) dX11_back_15 rfl ?_
    refine xg_X11_65 0 ho rfl (pc := 16) dX11_back_16 rfl ?_
    refine s_iconst (v := 1) (pc := 19) dX11_back_19 (by decide) ?_
    refine s_isub (pc := 20) dX11_back_20 ?_
    refine xp_X11_65 (L' := fun s_1 => [(11, b0, f0, s_1), (7, (b0 + 8), f1, s1)]) 0 ho rfl (fun _ => rfl) (pc := 21) dX11_back_21 rfl (fun s_1 => ?_)
    refine s_aload_n (pc := 24) 0 dX11_back_24 rfl ?_
    refine xg_X11_25 0 ho rfl (pc := 25) dX11_back_25 rfl ?_
    refine s_aload_n (pc := 28) 0 dX11_back_28 rfl ?_
    refine xg_X11_29 0 ho rfl (pc := 29) dX11_back_29 rfl ?_
    refine s_aload_n (pc := 32) 0 dX11_back_32 rfl ?_
    refine xg_X11_65 0 ho rfl (pc := 33) dX11_back_33 rfl ?_
    exact s_ev (fun _ _ q => q)
  · exact fun z hz => by cases hz
end
section
variable {l : Launch} {n0 S0 : Nat} {h : aH} {b0 b2 b3 b4 : Nat} {f0 f1 f2 f3 f4 : Nat → Option Nat}
def pX11_backt (s0 : RS) (s1 : RS) (s2 : RS) (s3 : RS) (s4 : RS) : Option (Int32 × RS × RS) :=
  (pX7_copyFrom s1 s2 s3 s4).bind fun x1 =>
  (pX11_tell s0 (s0.1 10)).bind fun x2 =>
  some (x2.1, x2.2, x1)
theorem pX11_backt_w (ho : xok [(11, b0), (7, (b0 + 8)), (7, b2), (0, b3), (3, b4)] h.2.1) (hq_2_0 : f2 0 = some b3) (hq_2_1 : f2 1 = some b4) (s0 : RS) (s1 : RS) (s2 : RS) (s3 : RS) (s4 : RS) : aS l 4 MX11_back n0 S0 (oΦ (fun (x : Int32 × RS × RS) => ((some (.int x.1)), xw [(11, b0, f0, x.2.1), (7, (b0 + 8), (va_up (va_up f1 0 (some b3)) 1 (some b4)), x.2.2), (7, b2, f2, s2), (0, b3, f3, s3), (3, b4, f4, s4)] h))) 37 [(0, .ref b0)] [.ref b2, .ref (b0 + 8)] (xw [(11, b0, f0, s0), (7, (b0 + 8), f1, s1), (7, b2, f2, s2), (0, b3, f3, s3), (3, b4, f4, s4)] h) (pX11_backt s0 s1 s2 s3 s4) := by
  unfold pX11_backt
  refine x_callV (M := MX11_back) (L := [(11, b0, f0, s0), (7, (b0 + 8), f1, s1), (7, b2, f2, s2), (0, b3, f3, s3), (3, b4, f4, s4)]) (h := h) (j := 1) (As := [.ref b2]) (st := []) (A := fun (x : RS) => none) (Lc := [(7, (b0 + 8), f1, s1), (7, b2, f2, s2), (0, b3, f3, s3), (3, b4, f4, s4)]) (Lr := fun (x : RS) => [(7, (b0 + 8), (va_up (va_up f1 0 (some b3)) 1 (some b4)), x), (7, b2, f2, s2), (0, b3, f3, s3), (3, b4, f4, s4)]) (L2 := fun (x : RS) => [(11, b0, f0, s0), (7, (b0 + 8), (va_up (va_up f1 0 (some b3)) 1 (some b4)), x), (7, b2, f2, s2), (0, b3, f3, s3), (3, b4, f4, s4)]) cv_X11_423 (by decide) (pc := 37) dX11_back_37 ho rfl xc0_7 rfl rfl (Nat.le_of_ble_eq_true rfl) (xovs (L := [(11, b0, f0, s0), (7, (b0 + 8), f1, s1), (7, b2, f2, s2), (0, b3, f3, s3), (3, b4, f4, s4)]) (h := h) [(1, (7, (b0 + 8), f1, s1)), (2, (7, b2, f2, s2)), (3, (0, b3, f3, s3)), (4, (3, b4, f4, s4))] ho ⟨rfl, rfl, rfl, rfl, trivial⟩).1 (fun x => (xovs (L := [(11, b0, f0, s0), (7, (b0 + 8), f1, s1), (7, b2, f2, s2), (0, b3, f3, s3), (3, b4, f4, s4)]) (h := h) [(1, (7, (b0 + 8), (va_up (va_up f1 0 (some b3)) 1 (some b4)), x)), (2, (7, b2, f2, s2)), (3, (0, b3, f3, s3)), (4, (3, b4, f4, s4))] ho ⟨rfl, rfl, rfl, rfl, trivial⟩).1) (fun x hx => pX7_copyFrom_ok (h := xw [(11, b0, f0, s0), (7, (b0 + 8), f1, s1), (7, b2, f2, s2), (0, b3, f3, s3), (3, b4, f4, s4)] h) (f0 := f1) (f1 := f2) (f2 := f3) (f3 := f4) (xok_sub ho [1, 2, 3, 4] rfl (by decide)) hq_2_0 hq_2_1 s1 s2 s3 s4 x hx) rfl (fun x1 _ => ?_)
  refine s_aload_n (pc := 40) 0 dX11_back_40 rfl ?_
  refine s_aload_n (pc := 41) 0 dX11_back_41 rfl ?_
  refine xg_X11_65 0 ho rfl (pc := 42) dX11_back_42 rfl ?_
  refine x_callV (M := MX11_back) (L := [(11, b0, f0, s0), (7, (b0 + 8), (va_up (va_up f1 0 (some b3)) 1 (some b4)), x1), (7, b2, f2, s2), (0, b3, f3, s3), (3, b4, f4, s4)]) (h := h) (j := 0) (As := [.int (s0.1 10)]) (st := []) (A := fun (x : Int32 × RS) => some (.int x.1)) (Lc := [(11, b0, f0, s0)]) (Lr := fun (x : Int32 × RS) => [(11, b0, f0, x.2)]) (L2 := fun (x : Int32 × RS) => [(11, b0, f0, x.2), (7, (b0 + 8), (va_up (va_up f1 0 (some b3)) 1 (some b4)), x1), (7, b2, f2, s2), (0, b3, f3, s3), (3, b4, f4, s4)]) cv_X11_169 (by decide) (pc := 45) dX11_back_45 ho rfl xc0_11 rfl rfl (Nat.le_of_ble_eq_true rfl) (xovs (L := [(11, b0, f0, s0), (7, (b0 + 8), (va_up (va_up f1 0 (some b3)) 1 (some b4)), x1), (7, b2, f2, s2), (0, b3, f3, s3), (3, b4, f4, s4)]) (h := h) [(0, (11, b0, f0, s0))] ho ⟨rfl, trivial⟩).1 (fun x => (xovs (L := [(11, b0, f0, s0), (7, (b0 + 8), (va_up (va_up f1 0 (some b3)) 1 (some b4)), x1), (7, b2, f2, s2), (0, b3, f3, s3), (3, b4, f4, s4)]) (h := h) [(0, (11, b0, f0, x.2))] ho ⟨rfl, trivial⟩).1) (fun x hx => pX11_tell_ok (h := xw [(11, b0, f0, s0), (7, (b0 + 8), (va_up (va_up f1 0 (some b3)) 1 (some b4)), x1), (7, b2, f2, s2), (0, b3, f3, s3), (3, b4, f4, s4)] h) (f0 := f0) (xok_sub ho [0] rfl (by decide)) s0 (s0.1 10) x hx) rfl (fun x2 _ => ?_)
  exact s_iret (pc := 48) dX11_back_48 rfl (fun _ _ q => q)
end
section
variable {l : Launch} {n0 S0 : Nat} {h : aH} {b0 b2 b3 : Nat} {f0 f1 f2 f3 : Nat → Option Nat}
def pX11_backtN (s0 : RS) (s1 : RS) (s2 : RS) (s3 : RS) : Option (Int32 × RS × RS) :=
  (pX7_copyFromN s1 s2 s3).bind fun x1 =>
  (pX11_tell s0 (s0.1 10)).bind fun x2 =>
  some (x2.1, x2.2, x1)
theorem pX11_backtN_w (ho : xok [(11, b0), (7, (b0 + 8)), (7, b2), (0, b3)] h.2.1) (hq_2_0 : f2 0 = some b3) (hq_2_1 : f2 1 = none) (s0 : RS) (s1 : RS) (s2 : RS) (s3 : RS) : aS l 4 MX11_back n0 S0 (oΦ (fun (x : Int32 × RS × RS) => ((some (.int x.1)), xw [(11, b0, f0, x.2.1), (7, (b0 + 8), (va_up (va_up f1 0 (some b3)) 1 none), x.2.2), (7, b2, f2, s2), (0, b3, f3, s3)] h))) 37 [(0, .ref b0)] [.ref b2, .ref (b0 + 8)] (xw [(11, b0, f0, s0), (7, (b0 + 8), f1, s1), (7, b2, f2, s2), (0, b3, f3, s3)] h) (pX11_backtN s0 s1 s2 s3) := by
  unfold pX11_backtN
  refine x_callV (M := MX11_back) (L := [(11, b0, f0, s0), (7, (b0 + 8), f1, s1), (7, b2, f2, s2), (0, b3, f3, s3)]) (h := h) (j := 1) (As := [.ref b2]) (st := []) (A := fun (x : RS) => none) (Lc := [(7, (b0 + 8), f1, s1), (7, b2, f2, s2), (0, b3, f3, s3)]) (Lr := fun (x : RS) => [(7, (b0 + 8), (va_up (va_up f1 0 (some b3)) 1 none), x), (7, b2, f2, s2), (0, b3, f3, s3)]) (L2 := fun (x : RS) => [(11, b0, f0, s0), (7, (b0 + 8), (va_up (va_up f1 0 (some b3)) 1 none), x), (7, b2, f2, s2), (0, b3, f3, s3)]) cv_X11_423 (by decide) (pc := 37) dX11_back_37 ho rfl xc0_7 rfl rfl (Nat.le_of_ble_eq_true rfl) (xovs (L := [(11, b0, f0, s0), (7, (b0 + 8), f1, s1), (7, b2, f2, s2), (0, b3, f3, s3)]) (h := h) [(1, (7, (b0 + 8), f1, s1)), (2, (7, b2, f2, s2)), (3, (0, b3, f3, s3))] ho ⟨rfl, rfl, rfl, trivial⟩).1 (fun x => (xovs (L := [(11, b0, f0, s0), (7, (b0 + 8), f1, s1), (7, b2, f2, s2), (0, b3, f3, s3)]) (h := h) [(1, (7, (b0 + 8), (va_up (va_up f1 0 (some b3)) 1 none), x)), (2, (7, b2, f2, s2)), (3, (0, b3, f3, s3))] ho ⟨rfl, rfl, rfl, trivial⟩).1) (fun x hx => pX7_copyFromN_ok (h := xw [(11, b0, f0, s0), (7, (b0 + 8), f1, s1), (7, b2, f2, s2), (0, b3, f3, s3)] h) (f0 := f1) (f1 := f2) (f2 := f3) (xok_sub ho [1, 2, 3] rfl (by decide)) hq_2_0 hq_2_1 s1 s2 s3 x hx) rfl (fun x1 _ => ?_)
  refine s_aload_n (pc := 40) 0 dX11_back_40 rfl ?_
  refine s_aload_n (pc := 41) 0 dX11_back_41 rfl ?_
  refine xg_X11_65 0 ho rfl (pc := 42) dX11_back_42 rfl ?_
  refine x_callV (M := MX11_back) (L := [(11, b0, f0, s0), (7, (b0 + 8), (va_up (va_up f1 0 (some b3)) 1 none), x1), (7, b2, f2, s2), (0, b3, f3, s3)]) (h := h) (j := 0) (As := [.int (s0.1 10)]) (st := []) (A := fun (x : Int32 × RS) => some (.int x.1)) (Lc := [(11, b0, f0, s0)]) (Lr := fun (x : Int32 × RS) => [(11, b0, f0, x.2)]) (L2 := fun (x : Int32 × RS) => [(11, b0, f0, x.2), (7, (b0 + 8), (va_up (va_up f1 0 (some b3)) 1 none), x1), (7, b2, f2, s2), (0, b3, f3, s3)]) cv_X11_169 (by decide) (pc := 45) dX11_back_45 ho rfl xc0_11 rfl rfl (Nat.le_of_ble_eq_true rfl) (xovs (L := [(11, b0, f0, s0), (7, (b0 + 8), (va_up (va_up f1 0 (some b3)) 1 none), x1), (7, b2, f2, s2), (0, b3, f3, s3)]) (h := h) [(0, (11, b0, f0, s0))] ho ⟨rfl, trivial⟩).1 (fun x => (xovs (L := [(11, b0, f0, s0), (7, (b0 + 8), (va_up (va_up f1 0 (some b3)) 1 none), x1), (7, b2, f2, s2), (0, b3, f3, s3)]) (h := h) [(0, (11, b0, f0, x.2))] ho ⟨rfl, trivial⟩).1) (fun x hx => pX11_tell_ok (h := xw [(11, b0, f0, s0), (7, (b0 + 8), (va_up (va_up f1 0 (some b3)) 1 none), x1), (7, b2, f2, s2), (0, b3, f3, s3)] h) (f0 := f0) (xok_sub ho [0] rfl (by decide)) s0 (s0.1 10) x hx) rfl (fun x2 _ => ?_)
  exact s_iret (pc := 48) dX11_back_48 rfl (fun _ _ q => q)
end
