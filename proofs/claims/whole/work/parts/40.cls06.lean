section
variable {l : Launch} {n0 S0 : Nat} {h : aH} {b0 b2 : Nat} {f0 f1 f2 f3 : Nat → Option Nat}
abbrev MX11_findThing : aM := (cX11_findThing, RX11, 4, (some .int), false)
def X11_findThing_j28 (s0 : RS) (s1 : RS) (s2 : RS) (s3 : RS) : Option (Int32 × RS × RS) :=
  (pX11_refuse s0 (2 : Int32)).bind fun x2 =>
  some (x2.1, x2.2, s3)
theorem X11_findThing_j28_ok (ho : xok [(11, b0), (7, (b0 + 8)), (0, b2), (2, (b0 + 26))] h.2.1) (hq_1_0 : f1 0 = some b2) (s0 : RS) (s1 : RS) (s2 : RS) (s3 : RS) : aS l 4 MX11_findThing n0 S0 (oΦ (fun (x : Int32 × RS × RS) => ((some (.int x.1)), xw [(11, b0, f0, x.2.1), (7, (b0 + 8), f1, s1), (0, b2, f2, s2), (2, (b0 + 26), f3, x.2.2)] h))) 28 [(0, .ref b0)] [] (xw [(11, b0, f0, s0), (7, (b0 + 8), f1, s1), (0, b2, f2, s2), (2, (b0 + 26), f3, s3)] h) (X11_findThing_j28 s0 s1 s2 s3) := by
  unfold X11_findThing_j28
  refine s_aload_n (pc := 28) 0 dX11_findThing_28 rfl ?_
  refine s_iconst (v := 2) (pc := 29) dX11_findThing_29 (by decide) ?_
  refine x_callV (M := MX11_findThing) (L := [(11, b0, f0, s0), (7, (b0 + 8), f1, s1), (0, b2, f2, s2), (2, (b0 + 26), f3, s3)]) (h := h) (j := 0) (As := [.int 2]) (st := []) (A := fun (x : Int32 × RS) => some (.int x.1)) (Lc := [(11, b0, f0, s0)]) (Lr := fun (x : Int32 × RS) => [(11, b0, f0, x.2)]) (L2 := fun (x : Int32 × RS) => [(11, b0, f0, x.2), (7, (b0 + 8), f1, s1), (0, b2, f2, s2), (2, (b0 + 26), f3, s3)]) cv_X11_113 (by decide) (pc := 30) dX11_findThing_30 ho rfl xc0_11 rfl rfl (Nat.le_of_ble_eq_true rfl) (xovs (L := [(11, b0, f0, s0), (7, (b0 + 8), f1, s1), (0, b2, f2, s2), (2, (b0 + 26), f3, s3)]) (h := h) [(0, (11, b0, f0, s0))] ho ⟨rfl, trivial⟩).1 (fun x => (xovs (L := [(11, b0, f0, s0), (7, (b0 + 8), f1, s1), (0, b2, f2, s2), (2, (b0 + 26), f3, s3)]) (h := h) [(0, (11, b0, f0, x.2))] ho ⟨rfl, trivial⟩).1) (fun x hx => pX11_refuse_ok (h := xw [(11, b0, f0, s0), (7, (b0 + 8), f1, s1), (0, b2, f2, s2), (2, (b0 + 26), f3, s3)] h) (f0 := f0) (xok_sub ho [0] rfl (by decide)) s0 (2 : Int32) x hx) rfl (fun x2 _ => ?_)
  exact s_iret (pc := 33) dX11_findThing_33 rfl (fun _ _ q => q)
def pX11_findThing (s0 : RS) (s1 : RS) (s2 : RS) (s3 : RS) (a0 : Int32) (a1 : Int32) : Option (Int32 × RS × RS) :=
  (pX0_isSet s2 a0).bind fun x1 =>
  if x1 = true then
    (pX0_isChange s2 a1).bind fun x3 =>
    if x3 = true then
      (pX0_isClosed s2 a0).bind fun x4 =>
      if x4 = true then
        (pX2_fill s3 s2 a0).bind fun x5 =>
        (pX2_placeOf x5 a1).bind fun x6 =>
        if x6 = (-1 : Int32) then
          (pX11_refuse s0 (8 : Int32)).bind fun x8 =>
          some (x8.1, x8.2, x5)
        else
          (pX11_tell s0 x6).bind fun x7 =>
          some (x7.1, x7.2, x5)
      else
        (pX11_refuse s0 (9 : Int32)).bind fun x9 =>
        some (x9.1, x9.2, s3)
    else
      X11_findThing_j28 s0 s1 s2 s3
  else
    X11_findThing_j28 s0 s1 s2 s3
theorem pX11_findThing_w (ho : xok [(11, b0), (7, (b0 + 8)), (0, b2), (2, (b0 + 26))] h.2.1) (hq_1_0 : f1 0 = some b2) (s0 : RS) (s1 : RS) (s2 : RS) (s3 : RS) (a0 : Int32) (a1 : Int32) : aS l 4 MX11_findThing n0 S0 (oΦ (fun (x : Int32 × RS × RS) => ((some (.int x.1)), xw [(11, b0, f0, x.2.1), (7, (b0 + 8), f1, s1), (0, b2, f2, s2), (2, (b0 + 26), f3, x.2.2)] h))) 0 [(0, .ref b0), (1, .int a0), (2, .int a1)] [] (xw [(11, b0, f0, s0), (7, (b0 + 8), f1, s1), (0, b2, f2, s2), (2, (b0 + 26), f3, s3)] h) (pX11_findThing s0 s1 s2 s3 a0 a1) := by
  unfold pX11_findThing
  refine s_aload_n (pc := 0) 0 dX11_findThing_0 rfl ?_
  refine xg_X11_25 0 ho rfl (pc := 1) dX11_findThing_1 rfl ?_
  refine xg_X11_174 1 ho rfl (pc := 4) dX11_findThing_4 rfl hq_1_0 ?_
  refine s_iload_n (pc := 7) 1 dX11_findThing_7 rfl ?_
  refine x_callV (M := MX11_findThing) (L := [(11, b0, f0, s0), (7, (b0 + 8), f1, s1), (0, b2, f2, s2), (2, (b0 + 26), f3, s3)]) (h := h) (j := 2) (As := [.int a0]) (st := []) (A := fun (x : Bool) => some (.int (b2i x))) (Lc := [(0, b2, f2, s2)]) (Lr := fun (x : Bool) => [(0, b2, f2, s2)]) (L2 := fun (x : Bool) => [(11, b0, f0, s0), (7, (b0 + 8), f1, s1), (0, b2, f2, s2), (2, (b0 + 26), f3, s3)]) cv_X11_241 (by decide) (pc := 8) dX11_findThing_8 ho rfl xc0_0 rfl rfl (Nat.le_of_ble_eq_true rfl) (xovs (L := [(11, b0, f0, s0), (7, (b0 + 8), f1, s1), (0, b2, f2, s2), (2, (b0 + 26), f3, s3)]) (h := h) [(2, (0, b2, f2, s2))] ho ⟨rfl, trivial⟩).1 (fun x => (xovs (L := [(11, b0, f0, s0), (7, (b0 + 8), f1, s1), (0, b2, f2, s2), (2, (b0 + 26), f3, s3)]) (h := h) [(2, (0, b2, f2, s2))] ho ⟨rfl, trivial⟩).1) (fun x hx => pX0_isSet_ok (h := xw [(11, b0, f0, s0), (7, (b0 + 8), f1, s1), (0, b2, f2, s2), (2, (b0 + 26), f3, s3)] h) (f0 := f2) (xok_sub ho [2] rfl (by decide)) s2 a0 x hx) rfl (fun x1 _ => ?_)
  refine s_if_eqB (tgt := 28) (pc := 11) dX11_findThing_11 (by decide) (fun _ => ?_) (fun _ => ?_)
  · refine s_aload_n (pc := 14) 0 dX11_findThing_14 rfl ?_
    refine xg_X11_25 0 ho rfl (pc := 15) dX11_findThing_15 rfl ?_
    refine xg_X11_174 1 ho rfl (pc := 18) dX11_findThing_18 rfl hq_1_0 ?_
    refine s_iload_n (pc := 21) 2 dX11_findThing_21 rfl ?_
    refine x_callV (M := MX11_findThing) (L := [(11, b0, f0, s0), (7, (b0 + 8), f1, s1), (0, b2, f2, s2), (2, (b0 + 26), f3, s3)]) (h := h) (j := 2) (As := [.int a1]) (st := []) (A := fun (x : Bool) => some (.int (b2i x))) (Lc := [(0, b2, f2, s2)]) (Lr := fun (x : Bool) => [(0, b2, f2, s2)]) (L2 := fun (x : Bool) => [(11, b0, f0, s0), (7, (b0 + 8), f1, s1), (0, b2, f2, s2), (2, (b0 + 26), f3, s3)]) cv_X11_212 (by decide) (pc := 22) dX11_findThing_22 ho rfl xc0_0 rfl rfl (Nat.le_of_ble_eq_true rfl) (xovs (L := [(11, b0, f0, s0), (7, (b0 + 8), f1, s1), (0, b2, f2, s2), (2, (b0 + 26), f3, s3)]) (h := h) [(2, (0, b2, f2, s2))] ho ⟨rfl, trivial⟩).1 (fun x => (xovs (L := [(11, b0, f0, s0), (7, (b0 + 8), f1, s1), (0, b2, f2, s2), (2, (b0 + 26), f3, s3)]) (h := h) [(2, (0, b2, f2, s2))] ho ⟨rfl, trivial⟩).1) (fun x hx => pX0_isChange_ok (h := xw [(11, b0, f0, s0), (7, (b0 + 8), f1, s1), (0, b2, f2, s2), (2, (b0 + 26), f3, s3)] h) (f0 := f2) (xok_sub ho [2] rfl (by decide)) s2 a1 x hx) rfl (fun x3 _ => ?_)
    refine s_if_neB (tgt := 34) (pc := 25) dX11_findThing_25 (by decide) (fun _ => ?_) (fun _ => ?_)
    · refine s_aload_n (pc := 34) 0 dX11_findThing_34 rfl ?_
      refine xg_X11_25 0 ho rfl (pc := 35) dX11_findThing_35 rfl ?_
      refine xg_X11_174 1 ho rfl (pc := 38) dX11_findThing_38 rfl hq_1_0 ?_
      refine s_iload_n (pc := 41) 1 dX11_findThing_41 rfl ?_
      refine x_callV (M := MX11_findThing) (L := [(11, b0, f0, s0), (7, (b0 + 8), f1, s1), (0, b2, f2, s2), (2, (b0 + 26), f3, s3)]) (h := h) (j := 2) (As := [.int a0]) (st := []) (A := fun (x : Bool) => some (.int (b2i x))) (Lc := [(0, b2, f2, s2)]) (Lr := fun (x : Bool) => [(0, b2, f2, s2)]) (L2 := fun (x : Bool) => [(11, b0, f0, s0), (7, (b0 + 8), f1, s1), (0, b2, f2, s2), (2, (b0 + 26), f3, s3)]) cv_X11_244 (by decide) (pc := 42) dX11_findThing_42 ho rfl xc0_0 rfl rfl (Nat.le_of_ble_eq_true rfl) (xovs (L := [(11, b0, f0, s0), (7, (b0 + 8), f1, s1), (0, b2, f2, s2), (2, (b0 + 26), f3, s3)]) (h := h) [(2, (0, b2, f2, s2))] ho ⟨rfl, trivial⟩).1 (fun x => (xovs (L := [(11, b0, f0, s0), (7, (b0 + 8), f1, s1), (0, b2, f2, s2), (2, (b0 + 26), f3, s3)]) (h := h) [(2, (0, b2, f2, s2))] ho ⟨rfl, trivial⟩).1) (fun x hx => pX0_isClosed_ok (h := xw [(11, b0, f0, s0), (7, (b0 + 8), f1, s1), (0, b2, f2, s2), (2, (b0 + 26), f3, s3)] h) (f0 := f2) (xok_sub ho [2] rfl (by decide)) s2 a0 x hx) rfl (fun x4 _ => ?_)
      refine s_if_neB (tgt := 55) (pc := 45) dX11_findThing_45 (by decide) (fun _ => ?_) (fun _ => ?_)
      · refine s_aload_n (pc := 55) 0 dX11_findThing_55 rfl ?_
        refine xg_X11_36 0 ho rfl (pc := 56) dX11_findThing_56 rfl ?_
        refine s_aload_n (pc := 59) 0 dX11_findThing_59 rfl ?_
        refine xg_X11_25 0 ho rfl (pc := 60) dX11_findThing_60 rfl ?_
        refine xg_X11_174 1 ho rfl (pc := 63) dX11_findThing_63 rfl hq_1_0 ?_
        refine s_iload_n (pc := 66) 1 dX11_findThing_66 rfl ?_
        refine x_callV (M := MX11_findThing) (L := [(11, b0, f0, s0), (7, (b0 + 8), f1, s1), (0, b2, f2, s2), (2, (b0 + 26), f3, s3)]) (h := h) (j := 3) (As := [.ref b2, .int a0]) (st := []) (A := fun (x : RS) => none) (Lc := [(2, (b0 + 26), f3, s3), (0, b2, f2, s2)]) (Lr := fun (x : RS) => [(2, (b0 + 26), f3, x), (0, b2, f2, s2)]) (L2 := fun (x : RS) => [(11, b0, f0, s0), (7, (b0 + 8), f1, s1), (0, b2, f2, s2), (2, (b0 + 26), f3, x)]) cv_X11_265 (by decide) (pc := 67) dX11_findThing_67 ho rfl xc0_2 rfl rfl (Nat.le_of_ble_eq_true rfl) (xovs (L := [(11, b0, f0, s0), (7, (b0 + 8), f1, s1), (0, b2, f2, s2), (2, (b0 + 26), f3, s3)]) (h := h) [(3, (2, (b0 + 26), f3, s3)), (2, (0, b2, f2, s2))] ho ⟨rfl, rfl, trivial⟩).1 (fun x => (xovs (L := [(11, b0, f0, s0), (7, (b0 + 8), f1, s1), (0, b2, f2, s2), (2, (b0 + 26), f3, s3)]) (h := h) [(3, (2, (b0 + 26), f3, x)), (2, (0, b2, f2, s2))] ho ⟨rfl, rfl, trivial⟩).1) (fun x hx => pX2_fill_ok (h := xw [(11, b0, f0, s0), (7, (b0 + 8), f1, s1), (0, b2, f2, s2), (2, (b0 + 26), f3, s3)] h) (f0 := f3) (f1 := f2) (xok_sub ho [3, 2] rfl (by decide)) s3 s2 a0 x hx) rfl (fun x5 _ => ?_)
        refine s_aload_n (pc := 70) 0 dX11_findThing_70 rfl ?_
        refine xg_X11_36 0 ho rfl (pc := 71) dX11_findThing_71 rfl ?_
        refine s_iload_n (pc := 74) 2 dX11_findThing_74 rfl ?_
        refine x_callV (M := MX11_findThing) (L := [(11, b0, f0, s0), (7, (b0 + 8), f1, s1), (0, b2, f2, s2), (2, (b0 + 26), f3, x5)]) (h := h) (j := 3) (As := [.int a1]) (st := []) (A := fun (x : Int32) => some (.int x)) (Lc := [(2, (b0 + 26), f3, x5)]) (Lr := fun (x : Int32) => [(2, (b0 + 26), f3, x5)]) (L2 := fun (x : Int32) => [(11, b0, f0, s0), (7, (b0 + 8), f1, s1), (0, b2, f2, s2), (2, (b0 + 26), f3, x5)]) cv_X11_278 (by decide) (pc := 75) dX11_findThing_75 ho rfl xc0_2 rfl rfl (Nat.le_of_ble_eq_true rfl) (xovs (L := [(11, b0, f0, s0), (7, (b0 + 8), f1, s1), (0, b2, f2, s2), (2, (b0 + 26), f3, x5)]) (h := h) [(3, (2, (b0 + 26), f3, x5))] ho ⟨rfl, trivial⟩).1 (fun x => (xovs (L := [(11, b0, f0, s0), (7, (b0 + 8), f1, s1), (0, b2, f2, s2), (2, (b0 + 26), f3, x5)]) (h := h) [(3, (2, (b0 + 26), f3, x5))] ho ⟨rfl, trivial⟩).1) (fun x hx => pX2_placeOf_ok (h := xw [(11, b0, f0, s0), (7, (b0 + 8), f1, s1), (0, b2, f2, s2), (2, (b0 + 26), f3, x5)] h) (f0 := f3) (xok_sub ho [3] rfl (by decide)) x5 a1 x hx) rfl (fun x6 _ => ?_)
        refine s_istore_n (lv' := [(3, .int x6), (0, .ref b0), (1, .int a0), (2, .int a1)]) (pc := 78) dX11_findThing_78 (by decide) rfl ?_
        refine s_iload_n (pc := 79) 0 dX11_findThing_79 rfl ?_
        refine s_iconst (v := (-1)) (pc := 80) dX11_findThing_80 (by decide) ?_
        refine s_icmp_ne (tgt := 93) (pc := 81) dX11_findThing_81 (by decide) (fun _ => ?_) (fun _ => ?_)
        · refine s_aload_n (pc := 84) 1 dX11_findThing_84 rfl ?_
          refine s_bipush (v := 8) (pc := 85) dX11_findThing_85 (by decide) ?_
          refine x_callV (M := MX11_findThing) (L := [(11, b0, f0, s0), (7, (b0 + 8), f1, s1), (0, b2, f2, s2), (2, (b0 + 26), f3, x5)]) (h := h) (j := 0) (As := [.int 8]) (st := []) (A := fun (x : Int32 × RS) => some (.int x.1)) (Lc := [(11, b0, f0, s0)]) (Lr := fun (x : Int32 × RS) => [(11, b0, f0, x.2)]) (L2 := fun (x : Int32 × RS) => [(11, b0, f0, x.2), (7, (b0 + 8), f1, s1), (0, b2, f2, s2), (2, (b0 + 26), f3, x5)]) cv_X11_113 (by decide) (pc := 87) dX11_findThing_87 ho rfl xc0_11 rfl rfl (Nat.le_of_ble_eq_true rfl) (xovs (L := [(11, b0, f0, s0), (7, (b0 + 8), f1, s1), (0, b2, f2, s2), (2, (b0 + 26), f3, x5)]) (h := h) [(0, (11, b0, f0, s0))] ho ⟨rfl, trivial⟩).1 (fun x => (xovs (L := [(11, b0, f0, s0), (7, (b0 + 8), f1, s1), (0, b2, f2, s2), (2, (b0 + 26), f3, x5)]) (h := h) [(0, (11, b0, f0, x.2))] ho ⟨rfl, trivial⟩).1) (fun x hx => pX11_refuse_ok (h := xw [(11, b0, f0, s0), (7, (b0 + 8), f1, s1), (0, b2, f2, s2), (2, (b0 + 26), f3, x5)] h) (f0 := f0) (xok_sub ho [0] rfl (by decide)) s0 (8 : Int32) x hx) rfl (fun x8 _ => ?_)
          refine s_goto (tgt := 98) (pc := 90) dX11_findThing_90 (by decide) ?_
          exact s_iret (pc := 98) dX11_findThing_98 rfl (fun _ _ q => q)
        · refine s_aload_n (pc := 93) 1 dX11_findThing_93 rfl ?_
          refine s_iload_n (pc := 94) 0 dX11_findThing_94 rfl ?_
          refine x_callV (M := MX11_findThing) (L := [(11, b0, f0, s0), (7, (b0 + 8), f1, s1), (0, b2, f2, s2), (2, (b0 + 26), f3, x5)]) (h := h) (j := 0) (As := [.int x6]) (st := []) (A := fun (x : Int32 × RS) => some (.int x.1)) (Lc := [(11, b0, f0, s0)]) (Lr := fun (x : Int32 × RS) => [(11, b0, f0, x.2)]) (L2 := fun (x : Int32 × RS) => [(11, b0, f0, x.2), (7, (b0 + 8), f1, s1), (0, b2, f2, s2), (2, (b0 + 26), f3, x5)]) cv_X11_169 (by decide) (pc := 95) dX11_findThing_95 ho rfl xc0_11 rfl rfl (Nat.le_of_ble_eq_true rfl) (xovs (L := [(11, b0, f0, s0), (7, (b0 + 8), f1, s1), (0, b2, f2, s2), (2, (b0 + 26), f3, x5)]) (h := h) [(0, (11, b0, f0, s0))] ho ⟨rfl, trivial⟩).1 (fun x => (xovs (L := [(11, b0, f0, s0), (7, (b0 + 8), f1, s1), (0, b2, f2, s2), (2, (b0 + 26), f3, x5)]) (h := h) [(0, (11, b0, f0, x.2))] ho ⟨rfl, trivial⟩).1) (fun x hx => pX11_tell_ok (h := xw [(11, b0, f0, s0), (7, (b0 + 8), f1, s1), (0, b2, f2, s2), (2, (b0 + 26), f3, x5)] h) (f0 := f0) (xok_sub ho [0] rfl (by decide)) s0 x6 x hx) rfl (fun x7 _ => ?_)
          exact s_iret (pc := 98) dX11_findThing_98 rfl (fun _ _ q => q)
      · refine s_aload_n (pc := 48) 0 dX11_findThing_48 rfl ?_
        refine s_bipush (v := 9) (pc := 49) dX11_findThing_49 (by decide) ?_
        refine x_callV (M := MX11_findThing) (L := [(11, b0, f0, s0), (7, (b0 + 8), f1, s1), (0, b2, f2, s2), (2, (b0 + 26), f3, s3)]) (h := h) (j := 0) (As := [.int 9]) (st := []) (A := fun (x : Int32 × RS) => some (.int x.1)) (Lc := [(11, b0, f0, s0)]) (Lr := fun (x : Int32 × RS) => [(11, b0, f0, x.2)]) (L2 := fun (x : Int32 × RS) => [(11, b0, f0, x.2), (7, (b0 + 8), f1, s1), (0, b2, f2, s2), (2, (b0 + 26), f3, s3)]) cv_X11_113 (by decide) (pc := 51) dX11_findThing_51 ho rfl xc0_11 rfl rfl (Nat.le_of_ble_eq_true rfl) (xovs (L := [(11, b0, f0, s0), (7, (b0 + 8), f1, s1), (0, b2, f2, s2), (2, (b0 + 26), f3, s3)]) (h := h) [(0, (11, b0, f0, s0))] ho ⟨rfl, trivial⟩).1 (fun x => (xovs (L := [(11, b0, f0, s0), (7, (b0 + 8), f1, s1), (0, b2, f2, s2), (2, (b0 + 26), f3, s3)]) (h := h) [(0, (11, b0, f0, x.2))] ho ⟨rfl, trivial⟩).1) (fun x hx => pX11_refuse_ok (h := xw [(11, b0, f0, s0), (7, (b0 + 8), f1, s1), (0, b2, f2, s2), (2, (b0 + 26), f3, s3)] h) (f0 := f0) (xok_sub ho [0] rfl (by decide)) s0 (9 : Int32) x hx) rfl (fun x9 _ => ?_)
        exact s_iret (pc := 54) dX11_findThing_54 rfl (fun _ _ q => q)
    · refine s_sub [0] rfl ?_
      exact X11_findThing_j28_ok ho hq_1_0 s0 s1 s2 s3
  · refine s_sub [0] rfl ?_
    exact X11_findThing_j28_ok ho hq_1_0 s0 s1 s2 s3
theorem pX11_findThing_ok (ho : xok [(11, b0), (7, (b0 + 8)), (0, b2), (2, (b0 + 26))] h.2.1) (hq_1_0 : f1 0 = some b2) (s0 : RS) (s1 : RS) (s2 : RS) (s3 : RS) (a0 : Int32) (a1 : Int32) : ∀ x, pX11_findThing s0 s1 s2 s3 a0 a1 = some x → aMet l 4 yX11_findThing cX11_findThing 4 (some .int) [.ref b0, .int a0, .int a1] (xw [(11, b0, f0, s0), (7, (b0 + 8), f1, s1), (0, b2, f2, s2), (2, (b0 + 26), f3, s3)] h) (some (.int x.1)) (xw [(11, b0, f0, x.2.1), (7, (b0 + 8), f1, s1), (0, b2, f2, s2), (2, (b0 + 26), f3, x.2.2)] h) := fun x hx => a_meth (ini := false) (y := yX11_findThing) (by decide +kernel) (fun q => by cases q) (fun _ => Nat.le_of_ble_eq_true rfl) (pX11_findThing_w ho hq_1_0 s0 s1 s2 s3 a0 a1) x hx _ _ ⟨rfl, rfl⟩
end
section
variable {l : Launch} {n0 S0 : Nat} {h : aH} {b0 b2 : Nat} {f0 f1 f2 f3 : Nat → Option Nat}
abbrev MX11_says : aM := (cX11_says, RX11, 4, (some .int), false)
def pX11_says (s0 : RS) (s1 : RS) (s2 : RS) (s3 : RS) (a0 : Int32) (a1 : Int32) : Option (Int32 × RS × RS) :=
  (pX11_findThing s0 s1 s2 s3 a0 a1).bind fun x1 =>
  (pX2_isPlace x1.2.2 x1.1).bind fun x2 =>
  if x2 = true then
    g_in x1.1 16 (
    some ((x1.2.2.2.2.1 2 x1.1.toNatClampNeg), x1.2.1, x1.2.2))
  else
    some ((-1 : Int32), x1.2.1, x1.2.2)
theorem pX11_says_w (ho : xok [(11, b0), (7, (b0 + 8)), (0, b2), (2, (b0 + 26))] h.2.1) (hq_1_0 : f1 0 = some b2) (s0 : RS) (s1 : RS) (s2 : RS) (s3 : RS) (a0 : Int32) (a1 : Int32) : aS l 5 MX11_says n0 S0 (oΦ (fun (x : Int32 × RS × RS) => ((some (.int x.1)), xw [(11, b0, f0, x.2.1), (7, (b0 + 8), f1, s1), (0, b2, f2, s2), (2, (b0 + 26), f3, x.2.2)] h))) 0 [(0, .ref b0), (1, .int a0), (2, .int a1)] [] (xw [(11, b0, f0, s0), (7, (b0 + 8), f1, s1), (0, b2, f2, s2), (2, (b0 + 26), f3, s3)] h) (pX11_says s0 s1 s2 s3 a0 a1) := by
  unfold pX11_says
  refine s_aload_n (pc := 0) 0 dX11_says_0 rfl ?_
  refine s_iload_n (pc := 1) 1 dX11_says_1 rfl ?_
  refine s_iload_n (pc := 2) 2 dX11_says_2 rfl ?_
  refine x_callV (M := MX11_says) (L := [(11, b0, f0, s0), (7, (b0 + 8), f1, s1), (0, b2, f2, s2), (2, (b0 + 26), f3, s3)]) (h := h) (j := 0) (As := [.int a0, .int a1]) (st := []) (A := fun (x : Int32 × RS × RS) => some (.int x.1)) (Lc := [(11, b0, f0, s0), (7, (b0 + 8), f1, s1), (0, b2, f2, s2), (2, (b0 + 26), f3, s3)]) (Lr := fun (x : Int32 × RS × RS) => [(11, b0, f0, x.2.1), (7, (b0 + 8), f1, s1), (0, b2, f2, s2), (2, (b0 + 26), f3, x.2.2)]) (L2 := fun (x : Int32 × RS × RS) => [(11, b0, f0, x.2.1), (7, (b0 + 8), f1, s1), (0, b2, f2, s2), (2, (b0 + 26), f3, x.2.2)]) cv_X11_281 (by decide) (pc := 3) dX11_says_3 ho rfl xc0_11 rfl rfl (Nat.le_of_ble_eq_true rfl) (xovs (L := [(11, b0, f0, s0), (7, (b0 + 8), f1, s1), (0, b2, f2, s2), (2, (b0 + 26), f3, s3)]) (h := h) [(0, (11, b0, f0, s0)), (1, (7, (b0 + 8), f1, s1)), (2, (0, b2, f2, s2)), (3, (2, (b0 + 26), f3, s3))] ho ⟨rfl, rfl, rfl, rfl, trivial⟩).1 (fun x => (xovs (L := [(11, b0, f0, s0), (7, (b0 + 8), f1, s1), (0, b2, f2, s2), (2, (b0 + 26), f3, s3)]) (h := h) [(0, (11, b0, f0, x.2.1)), (1, (7, (b0 + 8), f1, s1)), (2, (0, b2, f2, s2)), (3, (2, (b0 + 26), f3, x.2.2))] ho ⟨rfl, rfl, rfl, rfl, trivial⟩).1) (fun x hx => pX11_findThing_ok (h := xw [(11, b0, f0, s0), (7, (b0 + 8), f1, s1), (0, b2, f2, s2), (2, (b0 + 26), f3, s3)] h) (f0 := f0) (f1 := f1) (f2 := f2) (f3 := f3) (xok_sub ho [0, 1, 2, 3] rfl (by decide)) hq_1_0 s0 s1 s2 s3 a0 a1 x hx) rfl (fun x1 _ => ?_)
  refine s_istore_n (lv' := [(3, .int x1.1), (0, .ref b0), (1, .int a0), (2, .int a1)]) (pc := 6) dX11_says_6 (by decide) rfl ?_
  refine s_aload_n (pc := 7) 1 dX11_says_7 rfl ?_
  refine xg_X11_36 0 ho rfl (pc := 8) dX11_says_8 rfl ?_
  refine s_iload_n (pc := 11) 0 dX11_says_11 rfl ?_
  refine x_callV (M := MX11_says) (L := [(11, b0, f0, x1.2.1), (7, (b0 + 8), f1, s1), (0, b2, f2, s2), (2, (b0 + 26), f3, x1.2.2)]) (h := h) (j := 3) (As := [.int x1.1]) (st := []) (A := fun (x : Bool) => some (.int (b2i x))) (Lc := [(2, (b0 + 26), f3, x1.2.2)]) (Lr := fun (x : Bool) => [(2, (b0 + 26), f3, x1.2.2)]) (L2 := fun (x : Bool) => [(11, b0, f0, x1.2.1), (7, (b0 + 8), f1, s1), (0, b2, f2, s2), (2, (b0 + 26), f3, x1.2.2)]) cv_X11_272 (by decide) (pc := 12) dX11_says_12 ho rfl xc0_2 rfl rfl (Nat.le_of_ble_eq_true rfl) (xovs (L := [(11, b0, f0, x1.2.1), (7, (b0 + 8), f1, s1), (0, b2, f2, s2), (2, (b0 + 26), f3, x1.2.2)]) (h := h) [(3, (2, (b0 + 26), f3, x1.2.2))] ho ⟨rfl, trivial⟩).1 (fun x => (xovs (L := [(11, b0, f0, x1.2.1), (7, (b0 + 8), f1, s1), (0, b2, f2, s2), (2, (b0 + 26), f3, x1.2.2)]) (h := h) [(3, (2, (b0 + 26), f3, x1.2.2))] ho ⟨rfl, trivial⟩).1) (fun x hx => pX2_isPlace_ok (h := xw [(11, b0, f0, x1.2.1), (7, (b0 + 8), f1, s1), (0, b2, f2, s2), (2, (b0 + 26), f3, x1.2.2)] h) (f0 := f3) (xok_sub ho [3] rfl (by decide)) x1.2.2 x1.1 x hx) rfl (fun x2 _ => ?_)
  refine s_if_eqB (tgt := 30) (pc := 15) dX11_says_15 (by decide) (fun _ => ?_) (fun _ => ?_)
  · refine s_aload_n (pc := 18) 1 dX11_says_18 rfl ?_
    refine xg_X11_36 0 ho rfl (pc := 19) dX11_says_19 rfl ?_
    refine xg_X11_284 3 ho rfl (pc := 22) dX11_says_22 rfl ?_
    refine s_iload_n (pc := 25) 0 dX11_says_25 rfl ?_
    refine xl_2_2 3 ho rfl (pc := 26) dX11_says_26 ?_
    refine s_goto (tgt := 31) (pc := 27) dX11_says_27 (by decide) ?_
    exact s_iret (pc := 31) dX11_says_31 rfl (fun _ _ q => q)
  · refine s_iconst (v := (-1)) (pc := 30) dX11_says_30 (by decide) ?_
    exact s_iret (pc := 31) dX11_says_31 rfl (fun _ _ q => q)
theorem pX11_says_ok (ho : xok [(11, b0), (7, (b0 + 8)), (0, b2), (2, (b0 + 26))] h.2.1) (hq_1_0 : f1 0 = some b2) (s0 : RS) (s1 : RS) (s2 : RS) (s3 : RS) (a0 : Int32) (a1 : Int32) : ∀ x, pX11_says s0 s1 s2 s3 a0 a1 = some x → aMet l 5 yX11_says cX11_says 4 (some .int) [.ref b0, .int a0, .int a1] (xw [(11, b0, f0, s0), (7, (b0 + 8), f1, s1), (0, b2, f2, s2), (2, (b0 + 26), f3, s3)] h) (some (.int x.1)) (xw [(11, b0, f0, x.2.1), (7, (b0 + 8), f1, s1), (0, b2, f2, s2), (2, (b0 + 26), f3, x.2.2)] h) := fun x hx => a_meth (ini := false) (y := yX11_says) (by decide +kernel) (fun q => by cases q) (fun _ => Nat.le_of_ble_eq_true rfl) (pX11_says_w ho hq_1_0 s0 s1 s2 s3 a0 a1) x hx _ _ ⟨rfl, rfl⟩
end
section
variable {l : Launch} {n0 S0 : Nat} {h : aH} {b0 b2 : Nat} {f0 f1 f2 f3 : Nat → Option Nat}
abbrev MX11_key : aM := (cX11_key, RX11, 4, (some .int), false)
def pX11_key (s0 : RS) (s1 : RS) (s2 : RS) (s3 : RS) (a0 : Int32) (a1 : Int32) : Option (Int32 × RS × RS) :=
  (pX11_findThing s0 s1 s2 s3 a0 a1).bind fun x1 =>
  (pX2_isPlace x1.2.2 x1.1).bind fun x2 =>
  if x2 = true then
    g_in x1.1 16 (
    some ((x1.2.2.2.2.1 3 x1.1.toNatClampNeg), x1.2.1, x1.2.2))
  else
    some ((-1 : Int32), x1.2.1, x1.2.2)
theorem pX11_key_w (ho : xok [(11, b0), (7, (b0 + 8)), (0, b2), (2, (b0 + 26))] h.2.1) (hq_1_0 : f1 0 = some b2) (s0 : RS) (s1 : RS) (s2 : RS) (s3 : RS) (a0 : Int32) (a1 : Int32) : aS l 5 MX11_key n0 S0 (oΦ (fun (x : Int32 × RS × RS) => ((some (.int x.1)), xw [(11, b0, f0, x.2.1), (7, (b0 + 8), f1, s1), (0, b2, f2, s2), (2, (b0 + 26), f3, x.2.2)] h))) 0 [(0, .ref b0), (1, .int a0), (2, .int a1)] [] (xw [(11, b0, f0, s0), (7, (b0 + 8), f1, s1), (0, b2, f2, s2), (2, (b0 + 26), f3, s3)] h) (pX11_key s0 s1 s2 s3 a0 a1) := by
  unfold pX11_key
  refine s_aload_n (pc := 0) 0 dX11_key_0 rfl ?_
  refine s_iload_n (pc := 1) 1 dX11_key_1 rfl ?_
  refine s_iload_n (pc := 2) 2 dX11_key_2 rfl ?_
  refine x_callV (M := MX11_key) (L := [(11, b0, f0, s0), (7, (b0 + 8), f1, s1), (0, b2, f2, s2), (2, (b0 + 26), f3, s3)]) (h := h) (j := 0) (As := [.int a0, .int a1]) (st := []) (A := fun (x : Int32 × RS × RS) => some (.int x.1)) (Lc := [(11, b0, f0, s0), (7, (b0 + 8), f1, s1), (0, b2, f2, s2), (2, (b0 + 26), f3, s3)]) (Lr := fun (x : Int32 × RS × RS) => [(11, b0, f0, x.2.1), (7, (b0 + 8), f1, s1), (0, b2, f2, s2), (2, (b0 + 26), f3, x.2.2)]) (L2 := fun (x : Int32 × RS × RS) => [(11, b0, f0, x.2.1), (7, (b0 + 8), f1, s1), (0, b2, f2, s2), (2, (b0 + 26), f3, x.2.2)]) cv_X11_281 (by decide) (pc := 3) dX11_key_3 ho rfl xc0_11 rfl rfl (Nat.le_of_ble_eq_true rfl) (xovs (L := [(11, b0, f0, s0), (7, (b0 + 8), f1, s1), (0, b2, f2, s2), (2, (b0 + 26), f3, s3)]) (h := h) [(0, (11, b0, f0, s0)), (1, (7, (b0 + 8), f1, s1)), (2, (0, b2, f2, s2)), (3, (2, (b0 + 26), f3, s3))] ho ⟨rfl, rfl, rfl, rfl, trivial⟩).1 (fun x => (xovs (L := [(11, b0, f0, s0), (7, (b0 + 8), f1, s1), (0, b2, f2, s2), (2, (b0 + 26), f3, s3)]) (h := h) [(0, (11, b0, f0, x.2.1)), (1, (7, (b0 + 8), f1, s1)), (2, (0, b2, f2, s2)), (3, (2, (b0 + 26), f3, x.2.2))] ho ⟨rfl, rfl, rfl, rfl, trivial⟩).1) (fun x hx => pX11_findThing_ok (h := xw [(11, b0, f0, s0), (7, (b0 + 8), f1, s1), (0, b2, f2, s2), (2, (b0 + 26), f3, s3)] h) (f0 := f0) (f1 := f1) (f2 := f2) (f3 := f3) (xok_sub ho [0, 1, 2, 3] rfl (by decide)) hq_1_0 s0 s1 s2 s3 a0 a1 x hx) rfl (fun x1 _ => ?_)
  refine s_istore_n (lv' := [(3, .int x1.1), (0, .ref b0), (1, .int a0), (2, .int a1)]) (pc := 6) dX11_key_6 (by decide) rfl ?_
  refine s_aload_n (pc := 7) 1 dX11_key_7 rfl ?_
  refine xg_X11_36 0 ho rfl (pc := 8) dX11_key_8 rfl ?_
  refine s_iload_n (pc := 11) 0 dX11_key_11 rfl ?_
  refine x_callV (M := MX11_key) (L := [(11, b0, f0, x1.2.1), (7, (b0 + 8), f1, s1), (0, b2, f2, s2), (2, (b0 + 26), f3, x1.2.2)]) (h := h) (j := 3) (As := [.int x1.1]) (st := []) (A := fun (x : Bool) => some (.int (b2i x))) (Lc := [(2, (b0 + 26), f3, x1.2.2)]) (Lr := fun (x : Bool) => [(2, (b0 + 26), f3, x1.2.2)]) (L2 := fun (x : Bool) => [(11, b0, f0, x1.2.1), (7, (b0 + 8), f1, s1), (0, b2, f2, s2), (2, (b0 + 26), f3, x1.2.2)]) cv_X11_272 (by decide) (pc := 12) dX11_key_12 ho rfl xc0_2 rfl rfl (Nat.le_of_ble_eq_true rfl) (xovs (L := [(11, b0, f0, x1.2.1), (7, (b0 + 8), f1, s1), (0, b2, f2, s2), (2, (b0 + 26), f3, x1.2.2)]) (h := h) [(3, (2, (b0 + 26), f3, x1.2.2))] ho ⟨rfl, trivial⟩).1 (fun x => (xovs (L := [(11, b0, f0, x1.2.1), (7, (b0 + 8), f1, s1), (0, b2, f2, s2), (2, (b0 + 26), f3, x1.2.2)]) (h := h) [(3, (2, (b0 + 26), f3, x1.2.2))] ho ⟨rfl, trivial⟩).1) (fun x hx => pX2_isPlace_ok (h := xw [(11, b0, f0, x1.2.1), (7, (b0 + 8), f1, s1), (0, b2, f2, s2), (2, (b0 + 26), f3, x1.2.2)] h) (f0 := f3) (xok_sub ho [3] rfl (by decide)) x1.2.2 x1.1 x hx) rfl (fun x2 _ => ?_)
  refine s_if_eqB (tgt := 30) (pc := 15) dX11_key_15 (by decide) (fun _ => ?_) (fun _ => ?_)
  · refine s_aload_n (pc := 18) 1 dX11_key_18 rfl ?_
    refine xg_X11_36 0 ho rfl (pc := 19) dX11_key_19 rfl ?_
    refine xg_X11_285 3 ho rfl (pc := 22) dX11_key_22 rfl ?_
    refine s_iload_n (pc := 25) 0 dX11_key_25 rfl ?_
    refine xl_2_3 3 ho rfl (pc := 26) dX11_key_26 ?_
    refine s_goto (tgt := 31) (pc := 27) dX11_key_27 (by decide) ?_
    exact s_iret (pc := 31) dX11_key_31 rfl (fun _ _ q => q)
  · refine s_iconst (v := (-1)) (pc := 30) dX11_key_30 (by decide) ?_
    exact s_iret (pc := 31) dX11_key_31 rfl (fun _ _ q => q)
theorem pX11_key_ok (ho : xok [(11, b0), (7, (b0 + 8)), (0, b2), (2, (b0 + 26))] h.2.1) (hq_1_0 : f1 0 = some b2) (s0 : RS) (s1 : RS) (s2 : RS) (s3 : RS) (a0 : Int32) (a1 : Int32) : ∀ x, pX11_key s0 s1 s2 s3 a0 a1 = some x → aMet l 5 yX11_key cX11_key 4 (some .int) [.ref b0, .int a0, .int a1] (xw [(11, b0, f0, s0), (7, (b0 + 8), f1, s1), (0, b2, f2, s2), (2, (b0 + 26), f3, s3)] h) (some (.int x.1)) (xw [(11, b0, f0, x.2.1), (7, (b0 + 8), f1, s1), (0, b2, f2, s2), (2, (b0 + 26), f3, x.2.2)] h) := fun x hx => a_meth (ini := false) (y := yX11_key) (by decide +kernel) (fun q => by cases q) (fun _ => Nat.le_of_ble_eq_true rfl) (pX11_key_w ho hq_1_0 s0 s1 s2 s3 a0 a1) x hx _ _ ⟨rfl, rfl⟩
end
section
variable {l : Launch} {n0 S0 : Nat} {h : aH} {b0 b2 : Nat} {f0 f1 f2 f3 : Nat → Option Nat}
abbrev MX11_place : aM := (cX11_place, RX11, 3, (some .int), false)
def pX11_place (s0 : RS) (s1 : RS) (s2 : RS) (s3 : RS) (a0 : Int32) (a1 : Int32) : Option (Int32 × RS × RS) :=
  (pX11_findThing s0 s1 s2 s3 a0 a1).bind fun x1 =>
  some (x1.1, x1.2.1, x1.2.2)
theorem pX11_place_w (ho : xok [(11, b0), (7, (b0 + 8)), (0, b2), (2, (b0 + 26))] h.2.1) (hq_1_0 : f1 0 = some b2) (s0 : RS) (s1 : RS) (s2 : RS) (s3 : RS) (a0 : Int32) (a1 : Int32) : aS l 5 MX11_place n0 S0 (oΦ (fun (x : Int32 × RS × RS) => ((some (.int x.1)), xw [(11, b0, f0, x.2.1), (7, (b0 + 8), f1, s1), (0, b2, f2, s2), (2, (b0 + 26), f3, x.2.2)] h))) 0 [(0, .ref b0), (1, .int a0), (2, .int a1)] [] (xw [(11, b0, f0, s0), (7, (b0 + 8), f1, s1), (0, b2, f2, s2), (2, (b0 + 26), f3, s3)] h) (pX11_place s0 s1 s2 s3 a0 a1) := by
  unfold pX11_place
  refine s_aload_n (pc := 0) 0 dX11_place_0 rfl ?_
  refine s_iload_n (pc := 1) 1 dX11_place_1 rfl ?_
  refine s_iload_n (pc := 2) 2 dX11_place_2 rfl ?_
  refine x_callV (M := MX11_place) (L := [(11, b0, f0, s0), (7, (b0 + 8), f1, s1), (0, b2, f2, s2), (2, (b0 + 26), f3, s3)]) (h := h) (j := 0) (As := [.int a0, .int a1]) (st := []) (A := fun (x : Int32 × RS × RS) => some (.int x.1)) (Lc := [(11, b0, f0, s0), (7, (b0 + 8), f1, s1), (0, b2, f2, s2), (2, (b0 + 26), f3, s3)]) (Lr := fun (x : Int32 × RS × RS) => [(11, b0, f0, x.2.1), (7, (b0 + 8), f1, s1), (0, b2, f2, s2), (2, (b0 + 26), f3, x.2.2)]) (L2 := fun (x : Int32 × RS × RS) => [(11, b0, f0, x.2.1), (7, (b0 + 8), f1, s1), (0, b2, f2, s2), (2, (b0 + 26), f3, x.2.2)]) cv_X11_281 (by decide) (pc := 3) dX11_place_3 ho rfl xc0_11 rfl rfl (Nat.le_of_ble_eq_true rfl) (xovs (L := [(11, b0, f0, s0), (7, (b0 + 8), f1, s1), (0, b2, f2, s2), (2, (b0 + 26), f3, s3)]) (h := h) [(0, (11, b0, f0, s0)), (1, (7, (b0 + 8), f1, s1)), (2, (0, b2, f2, s2)), (3, (2, (b0 + 26), f3, s3))] ho ⟨rfl, rfl, rfl, rfl, trivial⟩).1 (fun x => (xovs (L := [(11, b0, f0, s0), (7, (b0 + 8), f1, s1), (0, b2, f2, s2), (2, (b0 + 26), f3, s3)]) (h := h) [(0, (11, b0, f0, x.2.1)), (1, (7, (b0 + 8), f1, s1)), (2, (0, b2, f2, s2)), (3, (2, (b0 + 26), f3, x.2.2))] ho ⟨rfl, rfl, rfl, rfl, trivial⟩).1) (fun x hx => pX11_findThing_ok (h := xw [(11, b0, f0, s0), (7, (b0 + 8), f1, s1), (0, b2, f2, s2), (2, (b0 + 26), f3, s3)] h) (f0 := f0) (f1 := f1) (f2 := f2) (f3 := f3) (xok_sub ho [0, 1, 2, 3] rfl (by decide)) hq_1_0 s0 s1 s2 s3 a0 a1 x hx) rfl (fun x1 _ => ?_)
  exact s_iret (pc := 6) dX11_place_6 rfl (fun _ _ q => q)
theorem pX11_place_ok (ho : xok [(11, b0), (7, (b0 + 8)), (0, b2), (2, (b0 + 26))] h.2.1) (hq_1_0 : f1 0 = some b2) (s0 : RS) (s1 : RS) (s2 : RS) (s3 : RS) (a0 : Int32) (a1 : Int32) : ∀ x, pX11_place s0 s1 s2 s3 a0 a1 = some x → aMet l 5 yX11_place cX11_place 3 (some .int) [.ref b0, .int a0, .int a1] (xw [(11, b0, f0, s0), (7, (b0 + 8), f1, s1), (0, b2, f2, s2), (2, (b0 + 26), f3, s3)] h) (some (.int x.1)) (xw [(11, b0, f0, x.2.1), (7, (b0 + 8), f1, s1), (0, b2, f2, s2), (2, (b0 + 26), f3, x.2.2)] h) := fun x hx => a_meth (ini := false) (y := yX11_place) (by decide +kernel) (fun q => by cases q) (fun _ => Nat.le_of_ble_eq_true rfl) (pX11_place_w ho hq_1_0 s0 s1 s2 s3 a0 a1) x hx _ _ ⟨rfl, rfl⟩
end
section
variable {l : Launch} {n0 S0 : Nat} {h : aH} {b0 b2 : Nat} {f0 f1 f2 : Nat → Option Nat}
abbrev MX11_faultOfSets : aM := (cX11_faultOfSets, RX11, 3, (some .int), false)
def pX11_faultOfSets (s0 : RS) (s1 : RS) (s2 : RS) (a0 : Int32) (a1 : Int32) : Option Int32 :=
  (pX0_isSet s2 a0).bind fun x1 =>
  if x1 = true then
    (pX0_isSet s2 a1).bind fun x2 =>
    if x2 = true then
      (pX0_isClosed s2 a0).bind fun x3 =>
      if x3 = true then
        (pX0_isClosed s2 a1).bind fun x4 =>
        if x4 = true then
          some (0 : Int32)
        else
          some (9 : Int32)
      else
        some (9 : Int32)
    else
      some (2 : Int32)
  else
    some (2 : Int32)
theorem pX11_faultOfSets_w (ho : xok [(11, b0), (7, (b0 + 8)), (0, b2)] h.2.1) (hq_1_0 : f1 0 = some b2) (s0 : RS) (s1 : RS) (s2 : RS) (a0 : Int32) (a1 : Int32) : aS l 3 MX11_faultOfSets n0 S0 (oΦ (fun (x : Int32) => ((some (.int x)), xw [(11, b0, f0, s0), (7, (b0 + 8), f1, s1), (0, b2, f2, s2)] h))) 0 [(0, .ref b0), (1, .int a0), (2, .int a1)] [] (xw [(11, b0, f0, s0), (7, (b0 + 8), f1, s1), (0, b2, f2, s2)] h) (pX11_faultOfSets s0 s1 s2 a0 a1) := by
  unfold pX11_faultOfSets
  refine s_aload_n (pc := 0) 0 dX11_faultOfSets_0 rfl ?_
  refine xg_X11_25 0 ho rfl (pc := 1) dX11_faultOfSets_1 rfl ?_
  refine xg_X11_174 1 ho rfl (pc := 4) dX11_faultOfSets_4 rfl hq_1_0 ?_
  refine s_iload_n (pc := 7) 1 dX11_faultOfSets_7 rfl ?_
  refine x_callV (M := MX11_faultOfSets) (L := [(11, b0, f0, s0), (7, (b0 + 8), f1, s1), (0, b2, f2, s2)]) (h := h) (j := 2) (As := [.int a0]) (st := []) (A := fun (x : Bool) => some (.int (b2i x))) (Lc := [(0, b2, f2, s2)]) (Lr := fun (x : Bool) => [(0, b2, f2, s2)]) (L2 := fun (x : Bool) => [(11, b0, f0, s0), (7, (b0 + 8), f1, s1), (0, b2, f2, s2)]) cv_X11_241 (by decide) (pc := 8) dX11_faultOfSets_8 ho rfl xc0_0 rfl rfl (Nat.le_of_ble_eq_true rfl) (xovs (L := [(11, b0, f0, s0), (7, (b0 + 8), f1, s1), (0, b2, f2, s2)]) (h := h) [(2, (0, b2, f2, s2))] ho ⟨rfl, trivial⟩).1 (fun x => (xovs (L := [(11, b0, f0, s0), (7, (b0 + 8), f1, s1), (0, b2, f2, s2)]) (h := h) [(2, (0, b2, f2, s2))] ho ⟨rfl, trivial⟩).1) (fun x hx => pX0_isSet_ok (h := xw [(11, b0, f0, s0), (7, (b0 + 8), f1, s1), (0, b2, f2, s2)] h) (f0 := f2) (xok_sub ho [2] rfl (by decide)) s2 a0 x hx) rfl (fun x1 _ => ?_)
  refine s_if_eqB (tgt := 28) (pc := 11) dX11_faultOfSets_11 (by decide) (fun _ => ?_) (fun _ => ?_)
  · refine s_aload_n (pc := 14) 0 dX11_faultOfSets_14 rfl ?_
    refine xg_X11_25 0 ho rfl (pc := 15) dX11_faultOfSets_15 rfl ?_
    refine xg_X11_174 1 ho rfl (pc := 18) dX11_faultOfSets_18 rfl hq_1_0 ?_
    refine s_iload_n (pc := 21) 2 dX11_faultOfSets_21 rfl ?_
    refine x_callV (M := MX11_faultOfSets) (L := [(11, b0, f0, s0), (7, (b0 + 8), f1, s1), (0, b2, f2, s2)]) (h := h) (j := 2) (As := [.int a1]) (st := []) (A := fun (x : Bool) => some (.int (b2i x))) (Lc := [(0, b2, f2, s2)]) (Lr := fun (x : Bool) => [(0, b2, f2, s2)]) (L2 := fun (x : Bool) => [(11, b0, f0, s0), (7, (b0 + 8), f1, s1), (0, b2, f2, s2)]) cv_X11_241 (by decide) (pc := 22) dX11_faultOfSets_22 ho rfl xc0_0 rfl rfl (Nat.le_of_ble_eq_true rfl) (xovs (L := [(11, b0, f0, s0), (7, (b0 + 8), f1, s1), (0, b2, f2, s2)]) (h := h) [(2, (0, b2, f2, s2))] ho ⟨rfl, trivial⟩).1 (fun x => (xovs (L := [(11, b0, f0, s0), (7, (b0 + 8), f1, s1), (0, b2, f2, s2)]) (h := h) [(2, (0, b2, f2, s2))] ho ⟨rfl, trivial⟩).1) (fun x hx => pX0_isSet_ok (h := xw [(11, b0, f0, s0), (7, (b0 + 8), f1, s1), (0, b2, f2, s2)] h) (f0 := f2) (xok_sub ho [2] rfl (by decide)) s2 a1 x hx) rfl (fun x2 _ => ?_)
    refine s_if_neB (tgt := 30) (pc := 25) dX11_faultOfSets_25 (by decide) (fun _ => ?_) (fun _ => ?_)
    · refine s_aload_n (pc := 30) 0 dX11_faultOfSets_30 rfl ?_
      refine xg_X11_25 0 ho rfl (pc := 31) dX11_faultOfSets_31 rfl ?_
      refine xg_X11_174 1 ho rfl (pc := 34) dX11_faultOfSets_34 rfl hq_1_0 ?_
      refine s_iload_n (pc := 37) 1 dX11_faultOfSets_37 rfl ?_
      refine x_callV (M := MX11_faultOfSets) (L := [(11, b0, f0, s0), (7, (b0 + 8), f1, s1), (0, b2, f2, s2)]) (h := h) (j := 2) (As := [.int a0]) (st := []) (A := fun (x : Bool) => some (.int (b2i x))) (Lc := [(0, b2, f2, s2)]) (Lr := fun (x : Bool) => [(0, b2, f2, s2)]) (L2 := fun (x : Bool) => [(11, b0, f0, s0), (7, (b0 + 8), f1, s1), (0, b2, f2, s2)]) cv_X11_244 (by decide) (pc := 38) dX11_faultOfSets_38 ho rfl xc0_0 rfl rfl (Nat.le_of_ble_eq_true rfl) (xovs (L := [(11, b0, f0, s0), (7, (b0 + 8), f1, s1), (0, b2, f2, s2)]) (h := h) [(2, (0, b2, f2, s2))] ho ⟨rfl, trivial⟩).1 (fun x => (xovs (L := [(11, b0, f0, s0), (7, (b0 + 8), f1, s1), (0, b2, f2, s2)]) (h := h) [(2, (0, b2, f2, s2))] ho ⟨rfl, trivial⟩).1) (fun x hx => pX0_isClosed_ok (h := xw [(11, b0, f0, s0), (7, (b0 + 8), f1, s1), (0, b2, f2, s2)] h) (f0 := f2) (xok_sub ho [2] rfl (by decide)) s2 a0 x hx) rfl (fun x3 _ => ?_)
      refine s_if_eqB (tgt := 62) (pc := 41) dX11_faultOfSets_41 (by decide) (fun _ => ?_) (fun _ => ?_)
      · refine s_aload_n (pc := 44) 0 dX11_faultOfSets_44 rfl ?_
        refine xg_X11_25 0 ho rfl (pc := 45) dX11_faultOfSets_45 rfl ?_
        refine xg_X11_174 1 ho rfl (pc := 48) dX11_faultOfSets_48 rfl hq_1_0 ?_
        refine s_iload_n (pc := 51) 2 dX11_faultOfSets_51 rfl ?_
        refine x_callV (M := MX11_faultOfSets) (L := [(11, b0, f0, s0), (7, (b0 + 8), f1, s1), (0, b2, f2, s2)]) (h := h) (j := 2) (As := [.int a1]) (st := []) (A := fun (x : Bool) => some (.int (b2i x))) (Lc := [(0, b2, f2, s2)]) (Lr := fun (x : Bool) => [(0, b2, f2, s2)]) (L2 := fun (x : Bool) => [(11, b0, f0, s0), (7, (b0 + 8), f1, s1), (0, b2, f2, s2)]) cv_X11_244 (by decide) (pc := 52) dX11_faultOfSets_52 ho rfl xc0_0 rfl rfl (Nat.le_of_ble_eq_true rfl) (xovs (L := [(11, b0, f0, s0), (7, (b0 + 8), f1, s1), (0, b2, f2, s2)]) (h := h) [(2, (0, b2, f2, s2))] ho ⟨rfl, trivial⟩).1 (fun x => (xovs (L := [(11, b0, f0, s0), (7, (b0 + 8), f1, s1), (0, b2, f2, s2)]) (h := h) [(2, (0, b2, f2, s2))] ho ⟨rfl, trivial⟩).1) (fun x hx => pX0_isClosed_ok (h := xw [(11, b0, f0, s0), (7, (b0 + 8), f1, s1), (0, b2, f2, s2)] h) (f0 := f2) (xok_sub ho [2] rfl (by decide)) s2 a1 x hx) rfl (fun x4 _ => ?_)
        refine s_if_eqB (tgt := 62) (pc := 55) dX11_faultOfSets_55 (by decide) (fun _ => ?_) (fun _ => ?_)
        · refine s_iconst (v := 0) (pc := 58) dX11_faultOfSets_58 (by decide) ?_
          refine s_goto (tgt := 64) (pc := 59) dX11_faultOfSets_59 (by decide) ?_
          exact s_iret (pc := 64) dX11_faultOfSets_64 rfl (fun _ _ q => q)
        · refine s_bipush (v := 9) (pc := 62) dX11_faultOfSets_62 (by decide) ?_
          exact s_iret (pc := 64) dX11_faultOfSets_64 rfl (fun _ _ q => q)
      · refine s_bipush (v := 9) (pc := 62) dX11_faultOfSets_62 (by decide) ?_
        exact s_iret (pc := 64) dX11_faultOfSets_64 rfl (fun _ _ q => q)
    · refine s_iconst (v := 2) (pc := 28) dX11_faultOfSets_28 (by decide) ?_
      exact s_iret (pc := 29) dX11_faultOfSets_29 rfl (fun _ _ q => q)
  · refine s_iconst (v := 2) (pc := 28) dX11_faultOfSets_28 (by decide) ?_
    exact s_iret (pc := 29) dX11_faultOfSets_29 rfl (fun _ _ q => q)
theorem pX11_faultOfSets_ok (ho : xok [(11, b0), (7, (b0 + 8)), (0, b2)] h.2.1) (hq_1_0 : f1 0 = some b2) (s0 : RS) (s1 : RS) (s2 : RS) (a0 : Int32) (a1 : Int32) : ∀ x, pX11_faultOfSets s0 s1 s2 a0 a1 = some x → aMet l 3 yX11_faultOfSets cX11_faultOfSets 3 (some .int) [.ref b0, .int a0, .int a1] (xw [(11, b0, f0, s0), (7, (b0 + 8), f1, s1), (0, b2, f2, s2)] h) (some (.int x)) (xw [(11, b0, f0, s0), (7, (b0 + 8), f1, s1), (0, b2, f2, s2)] h) := fun x hx => a_meth (ini := false) (y := yX11_faultOfSets) (by decide +kernel) (fun q => by cases q) (fun _ => Nat.le_of_ble_eq_true rfl) (pX11_faultOfSets_w ho hq_1_0 s0 s1 s2 a0 a1) x hx _ _ ⟨rfl, rfl⟩
end
section
variable {l : Launch} {n0 S0 : Nat} {h : aH} {b0 b2 : Nat} {f0 f1 f2 f3 f4 : Nat → Option Nat}
abbrev MX11_like : aM := (cX11_like, RX11, 5, (some .int), false)
def X11_like_j94 (k1 : Bool) (s0 : RS) (s1 : RS) (s2 : RS) (s3 : RS) (s4 : RS) : Option (Int32 × RS × RS × RS) :=
  (pX11_tell s0 (b2i k1)).bind fun x5 =>
  some (x5.1, x5.2, s3, s4)
theorem X11_like_j94_ok (ho : xok [(11, b0), (7, (b0 + 8)), (0, b2), (2, (b0 + 26)), (2, (b0 + 30))] h.2.1) (hq_1_0 : f1 0 = some b2) (k1 : Bool) (s0 : RS) (s1 : RS) (s2 : RS) (s3 : RS) (s4 : RS) : aS l 4 MX11_like n0 S0 (oΦ (fun (x : Int32 × RS × RS × RS) => ((some (.int x.1)), xw [(11, b0, f0, x.2.1), (7, (b0 + 8), f1, s1), (0, b2, f2, s2), (2, (b0 + 26), f3, x.2.2.1), (2, (b0 + 30), f4, x.2.2.2)] h))) 94 [] [.int (b2i k1), .ref b0] (xw [(11, b0, f0, s0), (7, (b0 + 8), f1, s1), (0, b2, f2, s2), (2, (b0 + 26), f3, s3), (2, (b0 + 30), f4, s4)] h) (X11_like_j94 k1 s0 s1 s2 s3 s4) := by
  unfold X11_like_j94
  refine x_callV (M := MX11_like) (L := [(11, b0, f0, s0), (7, (b0 + 8), f1, s1), (0, b2, f2, s2), (2, (b0 + 26), f3, s3), (2, (b0 + 30), f4, s4)]) (h := h) (j := 0) (As := [.int (b2i k1)]) (st := []) (A := fun (x : Int32 × RS) => some (.int x.1)) (Lc := [(11, b0, f0, s0)]) (Lr := fun (x : Int32 × RS) => [(11, b0, f0, x.2)]) (L2 := fun (x : Int32 × RS) => [(11, b0, f0, x.2), (7, (b0 + 8), f1, s1), (0, b2, f2, s2), (2, (b0 + 26), f3, s3), (2, (b0 + 30), f4, s4)]) cv_X11_169 (by decide) (pc := 94) dX11_like_94 ho rfl xc0_11 rfl rfl (Nat.le_of_ble_eq_true rfl) (xovs (L := [(11, b0, f0, s0), (7, (b0 + 8), f1, s1), (0, b2, f2, s2), (2, (b0 + 26), f3, s3), (2, (b0 + 30), f4, s4)]) (h := h) [(0, (11, b0, f0, s0))] ho ⟨rfl, trivial⟩).1 (fun x => (xovs (L := [(11, b0, f0, s0), (7, (b0 + 8), f1, s1), (0, b2, f2, s2), (2, (b0 + 26), f3, s3), (2, (b0 + 30), f4, s4)]) (h := h) [(0, (11, b0, f0, x.2))] ho ⟨rfl, trivial⟩).1) (fun x hx => pX11_tell_ok (h := xw [(11, b0, f0, s0), (7, (b0 + 8), f1, s1), (0, b2, f2, s2), (2, (b0 + 26), f3, s3), (2, (b0 + 30), f4, s4)] h) (f0 := f0) (xok_sub ho [0] rfl (by decide)) s0 (b2i k1) x hx) rfl (fun x5 _ => ?_)
  exact s_iret (pc := 97) dX11_like_97 rfl (fun _ _ q => q)
def X11_like_j81 (k0 : Bool) (s0 : RS) (s1 : RS) (s2 : RS) (s3 : RS) (s4 : RS) : Option (Int32 × RS × RS × RS) :=
  if k0 = true then
    X11_like_j94 true s0 s1 s2 s3 s4
  else
    X11_like_j94 false s0 s1 s2 s3 s4
theorem X11_like_j81_ok (ho : xok [(11, b0), (7, (b0 + 8)), (0, b2), (2, (b0 + 26)), (2, (b0 + 30))] h.2.1) (hq_1_0 : f1 0 = some b2) (k0 : Bool) (s0 : RS) (s1 : RS) (s2 : RS) (s3 : RS) (s4 : RS) : aS l 4 MX11_like n0 S0 (oΦ (fun (x : Int32 × RS × RS × RS) => ((some (.int x.1)), xw [(11, b0, f0, x.2.1), (7, (b0 + 8), f1, s1), (0, b2, f2, s2), (2, (b0 + 26), f3, x.2.2.1), (2, (b0 + 30), f4, x.2.2.2)] h))) 81 [(0, .ref b0)] [.int (b2i k0)] (xw [(11, b0, f0, s0), (7, (b0 + 8), f1, s1), (0, b2, f2, s2), (2, (b0 + 26), f3, s3), (2, (b0 + 30), f4, s4)] h) (X11_like_j81 k0 s0 s1 s2 s3 s4) := by
  unfold X11_like_j81
  refine s_istore (lv' := [(4, .int (b2i k0)), (0, .ref b0)]) (pc := 81) dX11_like_81 (by decide) rfl ?_
  refine s_aload_n (pc := 83) 1 dX11_like_83 rfl ?_
  refine s_iload (pc := 84) 0 dX11_like_84 rfl ?_
  refine s_if_eqB (tgt := 93) (pc := 86) dX11_like_86 (by decide) (fun _ => ?_) (fun _ => ?_)
  · refine s_iconst (v := 1) (pc := 89) dX11_like_89 (by decide) ?_
    refine s_goto (tgt := 94) (pc := 90) dX11_like_90 (by decide) ?_
    refine s_sub [] rfl ?_
    exact X11_like_j94_ok ho hq_1_0 true s0 s1 s2 s3 s4
  · refine s_iconst (v := 0) (pc := 93) dX11_like_93 (by decide) ?_
    refine s_sub [] rfl ?_
    exact X11_like_j94_ok ho hq_1_0 false s0 s1 s2 s3 s4
def X11_like_j80 (s0 : RS) (s1 : RS) (s2 : RS) (s3 : RS) (s4 : RS) : Option (Int32 × RS × RS × RS) :=
  X11_like_j81 false s0 s1 s2 s3 s4
theorem X11_like_j80_ok (ho : xok [(11, b0), (7, (b0 + 8)), (0, b2), (2, (b0 + 26)), (2, (b0 + 30))] h.2.1) (hq_1_0 : f1 0 = some b2) (s0 : RS) (s1 : RS) (s2 : RS) (s3 : RS) (s4 : RS) : aS l 4 MX11_like n0 S0 (oΦ (fun (x : Int32 × RS × RS × RS) => ((some (.int x.1)), xw [(11, b0, f0, x.2.1), (7, (b0 + 8), f1, s1), (0, b2, f2, s2), (2, (b0 + 26), f3, x.2.2.1), (2, (b0 + 30), f4, x.2.2.2)] h))) 80 [(0, .ref b0)] [] (xw [(11, b0, f0, s0), (7, (b0 + 8), f1, s1), (0, b2, f2, s2), (2, (b0 + 26), f3, s3), (2, (b0 + 30), f4, s4)] h) (X11_like_j80 s0 s1 s2 s3 s4) := by
  unfold X11_like_j80
  refine s_iconst (v := 0) (pc := 80) dX11_like_80 (by decide) ?_
  exact X11_like_j81_ok ho hq_1_0 false s0 s1 s2 s3 s4
def pX11_like (s0 : RS) (s1 : RS) (s2 : RS) (s3 : RS) (s4 : RS) (a0 : Int32) (a1 : Int32) : Option (Int32 × RS × RS × RS) :=
  (pX11_faultOfSets s0 s1 s2 a0 a1).bind fun x1 =>
  if x1 = 0 then
    (pX2_fill s3 s2 a0).bind fun x2 =>
    (pX2_fill s4 s2 a1).bind fun x3 =>
    (pX2_isLike x2 x3).bind fun x4 =>
    if x4 = true then
      (pX0_quarrelAlike s2 a0 a1).bind fun x6 =>
      if x6 = true then
        X11_like_j81 true s0 s1 s2 x2 x3
      else
        X11_like_j80 s0 s1 s2 x2 x3
    else
      X11_like_j80 s0 s1 s2 x2 x3
  else
    (pX11_refuse s0 x1).bind fun x7 =>
    some (x7.1, x7.2, s3, s4)
theorem pX11_like_w (ho : xok [(11, b0), (7, (b0 + 8)), (0, b2), (2, (b0 + 26)), (2, (b0 + 30))] h.2.1) (hq_1_0 : f1 0 = some b2) (s0 : RS) (s1 : RS) (s2 : RS) (s3 : RS) (s4 : RS) (a0 : Int32) (a1 : Int32) : aS l 4 MX11_like n0 S0 (oΦ (fun (x : Int32 × RS × RS × RS) => ((some (.int x.1)), xw [(11, b0, f0, x.2.1), (7, (b0 + 8), f1, s1), (0, b2, f2, s2), (2, (b0 + 26), f3, x.2.2.1), (2, (b0 + 30), f4, x.2.2.2)] h))) 0 [(0, .ref b0), (1, .int a0), (2, .int a1)] [] (xw [(11, b0, f0, s0), (7, (b0 + 8), f1, s1), (0, b2, f2, s2), (2, (b0 + 26), f3, s3), (2, (b0 + 30), f4, s4)] h) (pX11_like s0 s1 s2 s3 s4 a0 a1) := by
  unfold pX11_like
  refine s_aload_n (pc := 0) 0 dX11_like_0 rfl ?_
  refine s_iload_n (pc := 1) 1 dX11_like_1 rfl ?_
  refine s_iload_n (pc := 2) 2 dX11_like_2 rfl ?_
  refine x_callV (M := MX11_like) (L := [(11, b0, f0, s0), (7, (b0 + 8), f1, s1), (0, b2, f2, s2), (2, (b0 + 26), f3, s3), (2, (b0 + 30), f4, s4)]) (h := h) (j := 0) (As := [.int a0, .int a1]) (st := []) (A := fun (x : Int32) => some (.int x)) (Lc := [(11, b0, f0, s0), (7, (b0 + 8), f1, s1), (0, b2, f2, s2)]) (Lr := fun (x : Int32) => [(11, b0, f0, s0), (7, (b0 + 8), f1, s1), (0, b2, f2, s2)]) (L2 := fun (x : Int32) => [(11, b0, f0, s0), (7, (b0 + 8), f1, s1), (0, b2, f2, s2), (2, (b0 + 26), f3, s3), (2, (b0 + 30), f4, s4)]) cv_X11_288 (by decide) (pc := 3) dX11_like_3 ho rfl xc0_11 rfl rfl (Nat.le_of_ble_eq_true rfl) (xovs (L := [(11, b0, f0, s0), (7, (b0 + 8), f1, s1), (0, b2, f2, s2), (2, (b0 + 26), f3, s3), (2, (b0 + 30), f4, s4)]) (h := h) [(0, (11, b0, f0, s0)), (1, (7, (b0 + 8), f1, s1)), (2, (0, b2, f2, s2))] ho ⟨rfl, rfl, rfl, trivial⟩).1 (fun x => (xovs (L := [(11, b0, f0, s0), (7, (b0 + 8), f1, s1), (0, b2, f2, s2), (2, (b0 + 26), f3, s3), (2, (b0 + 30), f4, s4)]) (h := h) [(0, (11, b0, f0, s0)), (1, (7, (b0 + 8), f1, s1)), (2, (0, b2, f2, s2))] ho ⟨rfl, rfl, rfl, trivial⟩).1) (fun x hx => pX11_faultOfSets_ok (h := xw [(11, b0, f0, s0), (7, (b0 + 8), f1, s1), (0, b2, f2, s2), (2, (b0 + 26), f3, s3), (2, (b0 + 30), f4, s4)] h) (f0 := f0) (f1 := f1) (f2 := f2) (xok_sub ho [0, 1, 2] rfl (by decide)) hq_1_0 s0 s1 s2 a0 a1 x hx) rfl (fun x1 _ => ?_)
  refine s_istore_n (lv' := [(3, .int x1), (0, .ref b0), (1, .int a0), (2, .int a1)]) (pc := 6) dX11_like_6 (by decide) rfl ?_
  refine s_iload_n (pc := 7) 0 dX11_like_7 rfl ?_
  refine s_if_eq (tgt := 17) (pc := 8) dX11_like_8 (by decide) (fun _ => ?_) (fun _ => ?_)
  · refine s_aload_n (pc := 17) 1 dX11_like_17 rfl ?_
    refine xg_X11_36 0 ho rfl (pc := 18) dX11_like_18 rfl ?_
    refine s_aload_n (pc := 21) 1 dX11_like_21 rfl ?_
    refine xg_X11_25 0 ho rfl (pc := 22) dX11_like_22 rfl ?_
    refine xg_X11_174 1 ho rfl (pc := 25) dX11_like_25 rfl hq_1_0 ?_
    refine s_iload_n (pc := 28) 2 dX11_like_28 rfl ?_
    refine x_callV (M := MX11_like) (L := [(11, b0, f0, s0), (7, (b0 + 8), f1, s1), (0, b2, f2, s2), (2, (b0 + 26), f3, s3), (2, (b0 + 30), f4, s4)]) (h := h) (j := 3) (As := [.ref b2, .int a0]) (st := []) (A := fun (x : RS) => none) (Lc := [(2, (b0 + 26), f3, s3), (0, b2, f2, s2)]) (Lr := fun (x : RS) => [(2, (b0 + 26), f3, x), (0, b2, f2, s2)]) (L2 := fun (x : RS) => [(11, b0, f0, s0), (7, (b0 + 8), f1, s1), (0, b2, f2, s2), (2, (b0 + 26), f3, x), (2, (b0 + 30), f4, s4)]) cv_X11_265 (by decide) (pc := 29) dX11_like_29 ho rfl xc0_2 rfl rfl (Nat.le_of_ble_eq_true rfl) (xovs (L := [(11, b0, f0, s0), (7, (b0 + 8), f1, s1), (0, b2, f2, s2), (2, (b0 + 26), f3, s3), (2, (b0 + 30), f4, s4)]) (h := h) [(3, (2, (b0 + 26), f3, s3)), (2, (0, b2, f2, s2))] ho ⟨rfl, rfl, trivial⟩).1 (fun x => (xovs (L := [(11, b0, f0, s0), (7, (b0 + 8), f1, s1), (0, b2, f2, s2), (2, (b0 + 26), f3, s3), (2, (b0 + 30), f4, s4)]) (h := h) [(3, (2, (b0 + 26), f3, x)), (2, (0, b2, f2, s2))] ho ⟨rfl, rfl, trivial⟩).1) (fun x hx => pX2_fill_ok (h := xw [(11, b0, f0, s0), (7, (b0 + 8), f1, s1), (0, b2, f2, s2), (2, (b0 + 26), f3, s3), (2, (b0 + 30), f4, s4)] h) (f0 := f3) (f1 := f2) (xok_sub ho [3, 2] rfl (by decide)) s3 s2 a0 x hx) rfl (fun x2 _ => ?_)
    refine s_aload_n (pc := 32) 1 dX11_like_32 rfl ?_
    refine xg_X11_40 0 ho rfl (pc := 33) dX11_like_33 rfl ?_
    refine s_aload_n (pc := 36) 1 dX11_like_36 rfl ?_
    refine xg_X11_25 0 ho rfl (pc := 37) dX11_like_37 rfl ?_
    refine xg_X11_174 1 ho rfl (pc := 40) dX11_like_40 rfl hq_1_0 ?_
    refine s_iload_n (pc := 43) 3 dX11_like_43 rfl ?_
    refine x_callV (M := MX11_like) (L := [(11, b0, f0, s0), (7, (b0 + 8), f1, s1), (0, b2, f2, s2), (2, (b0 + 26), f3, x2), (2, (b0 + 30), f4, s4)]) (h := h) (j := 4) (As := [.ref b2, .int a1]) (st := []) (A := fun (x : RS) => none) (Lc := [(2, (b0 + 30), f4, s4), (0, b2, f2, s2)]) (Lr := fun (x : RS) => [(2, (b0 + 30), f4, x), (0, b2, f2, s2)]) (L2 := fun (x : RS) => [(11, b0, f0, s0), (7, (b0 + 8), f1, s1), (0, b2, f2, s2), (2, (b0 + 26), f3, x2), (2, (b0 + 30), f4, x)]) cv_X11_265 (by decide) (pc := 44) dX11_like_44 ho rfl xc0_2 rfl rfl (Nat.le_of_ble_eq_true rfl) (xovs (L := [(11, b0, f0, s0), (7, (b0 + 8), f1, s1), (0, b2, f2, s2), (2, (b0 + 26), f3, x2), (2, (b0 + 30), f4, s4)]) (h := h) [(4, (2, (b0 + 30), f4, s4)), (2, (0, b2, f2, s2))] ho ⟨rfl, rfl, trivial⟩).1 (fun x => (xovs (L := [(11, b0, f0, s0), (7, (b0 + 8), f1, s1), (0, b2, f2, s2), (2, (b0 + 26), f3, x2), (2, (b0 + 30), f4, s4)]) (h := h) [(4, (2, (b0 + 30), f4, x)), (2, (0, b2, f2, s2))] ho ⟨rfl, rfl, trivial⟩).1) (fun x hx => pX2_fill_ok (h := xw [(11, b0, f0, s0), (7, (b0 + 8), f1, s1), (0, b2, f2, s2), (2, (b0 + 26), f3, x2), (2, (b0 + 30), f4, s4)] h) (f0 := f4) (f1 := f2) (xok_sub ho [4, 2] rfl (by decide)) s4 s2 a1 x hx) rfl (fun x3 _ => ?_)
    refine s_aload_n (pc := 47) 1 dX11_like_47 rfl ?_
    refine xg_X11_36 0 ho rfl (pc := 48) dX11_like_48 rfl ?_
    refine s_aload_n (pc := 51) 1 dX11_like_51 rfl ?_
    refine xg_X11_40 0 ho rfl (pc := 52) dX11_like_52 rfl ?_
    refine x_callV (M := MX11_like) (L := [(11, b0, f0, s0), (7, (b0 + 8), f1, s1), (0, b2, f2, s2), (2, (b0 + 26), f3, x2), (2, (b0 + 30), f4, x3)]) (h := h) (j := 3) (As := [.ref (b0 + 30)]) (st := []) (A := fun (x : Bool) => some (.int (b2i x))) (Lc := [(2, (b0 + 26), f3, x2), (2, (b0 + 30), f4, x3)]) (Lr := fun (x : Bool) => [(2, (b0 + 26), f3, x2), (2, (b0 + 30), f4, x3)]) (L2 := fun (x : Bool) => [(11, b0, f0, s0), (7, (b0 + 8), f1, s1), (0, b2, f2, s2), (2, (b0 + 26), f3, x2), (2, (b0 + 30), f4, x3)]) cv_X11_291 (by decide) (pc := 55) dX11_like_55 ho rfl xc0_2 rfl rfl (Nat.le_of_ble_eq_true rfl) (xovs (L := [(11, b0, f0, s0), (7, (b0 + 8), f1, s1), (0, b2, f2, s2), (2, (b0 + 26), f3, x2), (2, (b0 + 30), f4, x3)]) (h := h) [(3, (2, (b0 + 26), f3, x2)), (4, (2, (b0 + 30), f4, x3))] ho ⟨rfl, rfl, trivial⟩).1 (fun x => (xovs (L := [(11, b0, f0, s0), (7, (b0 + 8), f1, s1), (0, b2, f2, s2), (2, (b0 + 26), f3, x2), (2, (b0 + 30), f4, x3)]) (h := h) [(3, (2, (b0 + 26), f3, x2)), (4, (2, (b0 + 30), f4, x3))] ho ⟨rfl, rfl, trivial⟩).1) (fun x hx => pX2_isLike_ok (h := xw [(11, b0, f0, s0), (7, (b0 + 8), f1, s1), (0, b2, f2, s2), (2, (b0 + 26), f3, x2), (2, (b0 + 30), f4, x3)] h) (f0 := f3) (f1 := f4) (xok_sub ho [3, 4] rfl (by decide)) x2 x3 x hx) rfl (fun x4 _ => ?_)
    refine s_if_eqB (tgt := 80) (pc := 58) dX11_like_58 (by decide) (fun _ => ?_) (fun _ => ?_)
    · refine s_aload_n (pc := 61) 1 dX11_like_61 rfl ?_
      refine xg_X11_25 0 ho rfl (pc := 62) dX11_like_62 rfl ?_
      refine xg_X11_174 1 ho rfl (pc := 65) dX11_like_65 rfl hq_1_0 ?_
      refine s_iload_n (pc := 68) 2 dX11_like_68 rfl ?_
      refine s_iload_n (pc := 69) 3 dX11_like_69 rfl ?_
      refine x_callV (M := MX11_like) (L := [(11, b0, f0, s0), (7, (b0 + 8), f1, s1), (0, b2, f2, s2), (2, (b0 + 26), f3, x2), (2, (b0 + 30), f4, x3)]) (h := h) (j := 2) (As := [.int a0, .int a1]) (st := []) (A := fun (x : Bool) => some (.int (b2i x))) (Lc := [(0, b2, f2, s2)]) (Lr := fun (x : Bool) => [(0, b2, f2, s2)]) (L2 := fun (x : Bool) => [(11, b0, f0, s0), (7, (b0 + 8), f1, s1), (0, b2, f2, s2), (2, (b0 + 26), f3, x2), (2, (b0 + 30), f4, x3)]) cv_X11_295 (by decide) (pc := 70) dX11_like_70 ho rfl xc0_0 rfl rfl (Nat.le_of_ble_eq_true rfl) (xovs (L := [(11, b0, f0, s0), (7, (b0 + 8), f1, s1), (0, b2, f2, s2), (2, (b0 + 26), f3, x2), (2, (b0 + 30), f4, x3)]) (h := h) [(2, (0, b2, f2, s2))] ho ⟨rfl, trivial⟩).1 (fun x => (xovs (L := [(11, b0, f0, s0), (7, (b0 + 8), f1, s1), (0, b2, f2, s2), (2, (b0 + 26), f3, x2), (2, (b0 + 30), f4, x3)]) (h := h) [(2, (0, b2, f2, s2))] ho ⟨rfl, trivial⟩).1) (fun x hx => pX0_quarrelAlike_ok (h := xw [(11, b0, f0, s0), (7, (b0 + 8), f1, s1), (0, b2, f2, s2), (2, (b0 + 26), f3, x2), (2, (b0 + 30), f4, x3)] h) (f0 := f2) (xok_sub ho [2] rfl (by decide)) s2 a0 a1 x hx) rfl (fun x6 _ => ?_)
      refine s_if_eqB (tgt := 80) (pc := 73) dX11_like_73 (by decide) (fun _ => ?_) (fun _ => ?_)
      · refine s_iconst (v := 1) (pc := 76) dX11_like_76 (by decide) ?_
        refine s_goto (tgt := 81) (pc := 77) dX11_like_77 (by decide) ?_
        refine s_sub [1] rfl ?_
        exact X11_like_j81_ok ho hq_1_0 true s0 s1 s2 x2 x3
      · refine s_sub [1] rfl ?_
        exact X11_like_j80_ok ho hq_1_0 s0 s1 s2 x2 x3
    · refine s_sub [1] rfl ?_
      exact X11_like_j80_ok ho hq_1_0 s0 s1 s2 x2 x3
  · refine s_aload_n (pc := 11) 1 dX11_like_11 rfl ?_
    refine s_iload_n (pc := 12) 0 dX11_like_12 rfl ?_
    refine x_callV (M := MX11_like) (L := [(11, b0, f0, s0), (7, (b0 + 8), f1, s1), (0, b2, f2, s2), (2, (b0 + 26), f3, s3), (2, (b0 + 30), f4, s4)]) (h := h) (j := 0) (As := [.int x1]) (st := []) (A := fun (x : Int32 × RS) => some (.int x.1)) (Lc := [(11, b0, f0, s0)]) (Lr := fun (x : Int32 × RS) => [(11, b0, f0, x.2)]) (L2 := fun (x : Int32 × RS) => [(11, b0, f0, x.2), (7, (b0 + 8), f1, s1), (0, b2, f2, s2), (2, (b0 + 26), f3, s3), (2, (b0 + 30), f4, s4)]) cv_X11_113 (by decide) (pc := 13) dX11_like_13 ho rfl xc0_11 rfl rfl (Nat.le_of_ble_eq_true rfl) (xovs (L := [(11, b0, f0, s0), (7, (b0 + 8), f1, s1), (0, b2, f2, s2), (2, (b0 + 26), f3, s3), (2, (b0 + 30), f4, s4)]) (h := h) [(0, (11, b0, f0, s0))] ho ⟨rfl, trivial⟩).1 (fun x => (xovs (L := [(11, b0, f0, s0), (7, (b0 + 8), f1, s1), (0, b2, f2, s2), (2, (b0 + 26), f3, s3), (2, (b0 + 30), f4, s4)]) (h := h) [(0, (11, b0, f0, x.2))] ho ⟨rfl, trivial⟩).1) (fun x hx => pX11_refuse_ok (h := xw [(11, b0, f0, s0), (7, (b0 + 8), f1, s1), (0, b2, f2, s2), (2, (b0 + 26), f3, s3), (2, (b0 + 30), f4, s4)] h) (f0 := f0) (xok_sub ho [0] rfl (by decide)) s0 x1 x hx) rfl (fun x7 _ => ?_)
    exact s_iret (pc := 16) dX11_like_16 rfl (fun _ _ q => q)
theorem pX11_like_ok (ho : xok [(11, b0), (7, (b0 + 8)), (0, b2), (2, (b0 + 26)), (2, (b0 + 30))] h.2.1) (hq_1_0 : f1 0 = some b2) (s0 : RS) (s1 : RS) (s2 : RS) (s3 : RS) (s4 : RS) (a0 : Int32) (a1 : Int32) : ∀ x, pX11_like s0 s1 s2 s3 s4 a0 a1 = some x → aMet l 4 yX11_like cX11_like 5 (some .int) [.ref b0, .int a0, .int a1] (xw [(11, b0, f0, s0), (7, (b0 + 8), f1, s1), (0, b2, f2, s2), (2, (b0 + 26), f3, s3), (2, (b0 + 30), f4, s4)] h) (some (.int x.1)) (xw [(11, b0, f0, x.2.1), (7, (b0 + 8), f1, s1), (0, b2, f2, s2), (2, (b0 + 26), f3, x.2.2.1), (2, (b0 + 30), f4, x.2.2.2)] h) := fun x hx => a_meth (ini := false) (y := yX11_like) (by decide +kernel) (fun q => by cases q) (fun _ => Nat.le_of_ble_eq_true rfl) (pX11_like_w ho hq_1_0 s0 s1 s2 s3 s4 a0 a1) x hx _ _ ⟨rfl, rfl⟩
end
section
variable {l : Launch} {n0 S0 : Nat} {h : aH} {b0 b2 : Nat} {f0 f1 f2 f3 f4 : Nat → Option Nat}
abbrev MX11_apart : aM := (cX11_apart, RX11, 5, (some .int), false)
def pX11_apart (s0 : RS) (s1 : RS) (s2 : RS) (s3 : RS) (s4 : RS) (a0 : Int32) (a1 : Int32) : Option (Int32 × RS × RS × RS) :=
  (pX11_faultOfSets s0 s1 s2 a0 a1).bind fun x1 =>
  if x1 = 0 then
    (pX2_fill s3 s2 a0).bind fun x2 =>
    (pX2_fill s4 s2 a1).bind fun x3 =>
    (pX2_firstDifference x2 x3).bind fun x4 =>
    if x4 = (-1 : Int32) then
      (pX11_refuse s0 (8 : Int32)).bind fun x6 =>
      some (x6.1, x6.2, x2, x3)
    else
      (pX11_tell s0 x4).bind fun x5 =>
      some (x5.1, x5.2, x2, x3)
  else
    (pX11_refuse s0 x1).bind fun x7 =>
    some (x7.1, x7.2, s3, s4)
theorem pX11_apart_w (ho : xok [(11, b0), (7, (b0 + 8)), (0, b2), (2, (b0 + 26)), (2, (b0 + 30))] h.2.1) (hq_1_0 : f1 0 = some b2) (s0 : RS) (s1 : RS) (s2 : RS) (s3 : RS) (s4 : RS) (a0 : Int32) (a1 : Int32) : aS l 4 MX11_apart n0 S0 (oΦ (fun (x : Int32 × RS × RS × RS) => ((some (.int x.1)), xw [(11, b0, f0, x.2.1), (7, (b0 + 8), f1, s1), (0, b2, f2, s2), (2, (b0 + 26), f3, x.2.2.1), (2, (b0 + 30), f4, x.2.2.2)] h))) 0 [(0, .ref b0), (1, .int a0), (2, .int a1)] [] (xw [(11, b0, f0, s0), (7, (b0 + 8), f1, s1), (0, b2, f2, s2), (2, (b0 + 26), f3, s3), (2, (b0 + 30), f4, s4)] h) (pX11_apart s0 s1 s2 s3 s4 a0 a1) := by
  unfold pX11_apart
  refine s_aload_n (pc := 0) 0 dX11_apart_0 rfl ?_
  refine s_iload_n (pc := 1) 1 dX11_apart_1 rfl ?_
  refine s_iload_n (pc := 2) 2 dX11_apart_2 rfl ?_
  refine x_callV (M := MX11_apart) (L := [(11, b0, f0, s0), (7, (b0 + 8), f1, s1), (0, b2, f2, s2), (2, (b0 + 26), f3, s3), (2, (b0 + 30), f4, s4)]) (h := h) (j := 0) (As := [.int a0, .int a1]) (st := []) (A := fun (x : Int32) => some (.int x)) (Lc := [(11, b0, f0, s0), (7, (b0 + 8), f1, s1), (0, b2, f2, s2)]) (Lr := fun (x : Int32) => [(11, b0, f0, s0), (7, (b0 + 8), f1, s1), (0, b2, f2, s2)]) (L2 := fun (x : Int32) => [(11, b0, f0, s0), (7, (b0 + 8), f1, s1), (0, b2, f2, s2), (2, (b0 + 26), f3, s3), (2, (b0 + 30), f4, s4)]) cv_X11_288 (by decide) (pc := 3) dX11_apart_3 ho rfl xc0_11 rfl rfl (Nat.le_of_ble_eq_true rfl) (xovs (L := [(11, b0, f0, s0), (7, (b0 + 8), f1, s1), (0, b2, f2, s2), (2, (b0 + 26), f3, s3), (2, (b0 + 30), f4, s4)]) (h := h) [(0, (11, b0, f0, s0)), (1, (7, (b0 + 8), f1, s1)), (2, (0, b2, f2, s2))] ho ⟨rfl, rfl, rfl, trivial⟩).1 (fun x => (xovs (L := [(11, b0, f0, s0), (7, (b0 + 8), f1, s1), (0, b2, f2, s2), (2, (b0 + 26), f3, s3), (2, (b0 + 30), f4, s4)]) (h := h) [(0, (11, b0, f0, s0)), (1, (7, (b0 + 8), f1, s1)), (2, (0, b2, f2, s2))] ho ⟨rfl, rfl, rfl, trivial⟩).1) (fun x hx => pX11_faultOfSets_ok (h := xw [(11, b0, f0, s0), (7, (b0 + 8), f1, s1), (0, b2, f2, s2), (2, (b0 + 26), f3, s3), (2, (b0 + 30), f4, s4)] h) (f0 := f0) (f1 := f1) (f2 := f2) (xok_sub ho [0, 1, 2] rfl (by decide)) hq_1_0 s0 s1 s2 a0 a1 x hx) rfl (fun x1 _ => ?_)
  refine s_istore_n (lv' := [(3, .int x1), (0, .ref b0), (1, .int a0), (2, .int a1)]) (pc := 6) dX11_apart_6 (by decide) rfl ?_
  refine s_iload_n (pc := 7) 0 dX11_apart_7 rfl ?_
  refine s_if_eq (tgt := 17) (pc := 8) dX11_apart_8 (by decide) (fun _ => ?_) (fun _ => ?_)
  · refine s_aload_n (pc := 17) 1 dX11_apart_17 rfl ?_
    refine xg_X11_36 0 ho rfl (pc := 18) dX11_apart_18 rfl ?_
    refine s_aload_n (pc := 21) 1 dX11_apart_21 rfl ?_
    refine xg_X11_25 0 ho rfl (pc := 22) dX11_apart_22 rfl ?_
    refine xg_X11_174 1 ho rfl (pc := 25) dX11_apart_25 rfl hq_1_0 ?_
    refine s_iload_n (pc := 28) 2 dX11_apart_28 rfl ?_
    refine x_callV (M := MX11_apart) (L := [(11, b0, f0, s0), (7, (b0 + 8), f1, s1), (0, b2, f2, s2), (2, (b0 + 26), f3, s3), (2, (b0 + 30), f4, s4)]) (h := h) (j := 3) (As := [.ref b2, .int a0]) (st := []) (A := fun (x : RS) => none) (Lc := [(2, (b0 + 26), f3, s3), (0, b2, f2, s2)]) (Lr := fun (x : RS) => [(2, (b0 + 26), f3, x), (0, b2, f2, s2)]) (L2 := fun (x : RS) => [(11, b0, f0, s0), (7, (b0 + 8), f1, s1), (0, b2, f2, s2), (2, (b0 + 26), f3, x), (2, (b0 + 30), f4, s4)]) cv_X11_265 (by decide) (pc := 29) dX11_apart_29 ho rfl xc0_2 rfl rfl (Nat.le_of_ble_eq_true rfl) (xovs (L := [(11, b0, f0, s0), (7, (b0 + 8), f1, s1), (0, b2, f2, s2), (2, (b0 + 26), f3, s3), (2, (b0 + 30), f4, s4)]) (h := h) [(3, (2, (b0 + 26), f3, s3)), (2, (0, b2, f2, s2))] ho ⟨rfl, rfl, trivial⟩).1 (fun x => (xovs (L := [(11, b0, f0, s0), (7, (b0 + 8), f1, s1), (0, b2, f2, s2), (2, (b0 + 26), f3, s3), (2, (b0 + 30), f4, s4)]) (h := h) [(3, (2, (b0 + 26), f3, x)), (2, (0, b2, f2, s2))] ho ⟨rfl, rfl, trivial⟩).1) (fun x hx => pX2_fill_ok (h := xw [(11, b0, f0, s0), (7, (b0 + 8), f1, s1), (0, b2, f2, s2), (2, (b0 + 26), f3, s3), (2, (b0 + 30), f4, s4)] h) (f0 := f3) (f1 := f2) (xok_sub ho [3, 2] rfl (by decide)) s3 s2 a0 x hx) rfl (fun x2 _ => ?_)
    refine s_aload_n (pc := 32) 1 dX11_apart_32 rfl ?_
    refine xg_X11_40 0 ho rfl (pc := 33) dX11_apart_33 rfl ?_
    refine s_aload_n (pc := 36) 1 dX11_apart_36 rfl ?_
    refine xg_X11_25 0 ho rfl (pc := 37) dX11_apart_37 rfl ?_
    refine xg_X11_174 1 ho rfl (pc := 40) dX11_apart_40 rfl hq_1_0 ?_
    refine s_iload_n (pc := 43) 3 dX11_apart_43 rfl ?_
    refine x_callV (M := MX11_apart) (L := [(11, b0, f0, s0), (7, (b0 + 8), f1, s1), (0, b2, f2, s2), (2, (b0 + 26), f3, x2), (2, (b0 + 30), f4, s4)]) (h := h) (j := 4) (As := [.ref b2, .int a1]) (st := []) (A := fun (x : RS) => none) (Lc := [(2, (b0 + 30), f4, s4), (0, b2, f2, s2)]) (Lr := fun (x : RS) => [(2, (b0 + 30), f4, x), (0, b2, f2, s2)]) (L2 := fun (x : RS) => [(11, b0, f0, s0), (7, (b0 + 8), f1, s1), (0, b2, f2, s2), (2, (b0 + 26), f3, x2), (2, (b0 + 30), f4, x)]) cv_X11_265 (by decide) (pc := 44) dX11_apart_44 ho rfl xc0_2 rfl rfl (Nat.le_of_ble_eq_true rfl) (xovs (L := [(11, b0, f0, s0), (7, (b0 + 8), f1, s1), (0, b2, f2, s2), (2, (b0 + 26), f3, x2), (2, (b0 + 30), f4, s4)]) (h := h) [(4, (2, (b0 + 30), f4, s4)), (2, (0, b2, f2, s2))] ho ⟨rfl, rfl, trivial⟩).1 (fun x => (xovs (L := [(11, b0, f0, s0), (7, (b0 + 8), f1, s1), (0, b2, f2, s2), (2, (b0 + 26), f3, x2), (2, (b0 + 30), f4, s4)]) (h := h) [(4, (2, (b0 + 30), f4, x)), (2, (0, b2, f2, s2))] ho ⟨rfl, rfl, trivial⟩).1) (fun x hx => pX2_fill_ok (h := xw [(11, b0, f0, s0), (7, (b0 + 8), f1, s1), (0, b2, f2, s2), (2, (b0 + 26), f3, x2), (2, (b0 + 30), f4, s4)] h) (f0 := f4) (f1 := f2) (xok_sub ho [4, 2] rfl (by decide)) s4 s2 a1 x hx) rfl (fun x3 _ => ?_)
    refine s_aload_n (pc := 47) 1 dX11_apart_47 rfl ?_
    refine xg_X11_36 0 ho rfl (pc := 48) dX11_apart_48 rfl ?_
    refine s_aload_n (pc := 51) 1 dX11_apart_51 rfl ?_
    refine xg_X11_40 0 ho rfl (pc := 52) dX11_apart_52 rfl ?_
    refine x_callV (M := MX11_apart) (L := [(11, b0, f0, s0), (7, (b0 + 8), f1, s1), (0, b2, f2, s2), (2, (b0 + 26), f3, x2), (2, (b0 + 30), f4, x3)]) (h := h) (j := 3) (As := [.ref (b0 + 30)]) (st := []) (A := fun (x : Int32) => some (.int x)) (Lc := [(2, (b0 + 26), f3, x2), (2, (b0 + 30), f4, x3)]) (Lr := fun (x : Int32) => [(2, (b0 + 26), f3, x2), (2, (b0 + 30), f4, x3)]) (L2 := fun (x : Int32) => [(11, b0, f0, s0), (7, (b0 + 8), f1, s1), (0, b2, f2, s2), (2, (b0 + 26), f3, x2), (2, (b0 + 30), f4, x3)]) cv_X11_298 (by decide) (pc := 55) dX11_apart_55 ho rfl xc0_2 rfl rfl (Nat.le_of_ble_eq_true rfl) (xovs (L := [(11, b0, f0, s0), (7, (b0 + 8), f1, s1), (0, b2, f2, s2), (2, (b0 + 26), f3, x2), (2, (b0 + 30), f4, x3)]) (h := h) [(3, (2, (b0 + 26), f3, x2)), (4, (2, (b0 + 30), f4, x3))] ho ⟨rfl, rfl, trivial⟩).1 (fun x => (xovs (L := [(11, b0, f0, s0), (7, (b0 + 8), f1, s1), (0, b2, f2, s2), (2, (b0 + 26), f3, x2), (2, (b0 + 30), f4, x3)]) (h := h) [(3, (2, (b0 + 26), f3, x2)), (4, (2, (b0 + 30), f4, x3))] ho ⟨rfl, rfl, trivial⟩).1) (fun x hx => pX2_firstDifference_ok (h := xw [(11, b0, f0, s0), (7, (b0 + 8), f1, s1), (0, b2, f2, s2), (2, (b0 + 26), f3, x2), (2, (b0 + 30), f4, x3)] h) (f0 := f3) (f1 := f4) (xok_sub ho [3, 4] rfl (by decide)) x2 x3 x hx) rfl (fun x4 _ => ?_)
    refine s_istore (lv' := [(4, .int x4), (3, .int x1), (0, .ref b0), (1, .int a0), (2, .int a1)]) (pc := 58) dX11_apart_58 (by decide) rfl ?_
    refine s_iload (pc := 60) 0 dX11_apart_60 rfl ?_
    refine s_iconst (v := (-1)) (pc := 62) dX11_apart_62 (by decide) ?_
    refine s_icmp_ne (tgt := 75) (pc := 63) dX11_apart_63 (by decide) (fun _ => ?_) (fun _ => ?_)
    · refine s_aload_n (pc := 66) 2 dX11_apart_66 rfl ?_
      refine s_bipush (v := 8) (pc := 67) dX11_apart_67 (by decide) ?_
      refine x_callV (M := MX11_apart) (L := [(11, b0, f0, s0), (7, (b0 + 8), f1, s1), (0, b2, f2, s2), (2, (b0 + 26), f3, x2), (2, (b0 + 30), f4, x3)]) (h := h) (j := 0) (As := [.int 8]) (st := []) (A := fun (x : Int32 × RS) => some (.int x.1)) (Lc := [(11, b0, f0, s0)]) (Lr := fun (x : Int32 × RS) => [(11, b0, f0, x.2)]) (L2 := fun (x : Int32 × RS) => [(11, b0, f0, x.2), (7, (b0 + 8), f1, s1), (0, b2, f2, s2), (2, (b0 + 26), f3, x2), (2, (b0 + 30), f4, x3)]) cv_X11_113 (by decide) (pc := 69) dX11_apart_69 ho rfl xc0_11 rfl rfl (Nat.le_of_ble_eq_true rfl) (xovs (L := [(11, b0, f0, s0), (7, (b0 + 8), f1, s1), (0, b2, f2, s2), (2, (b0 + 26), f3, x2), (2, (b0 + 30), f4, x3)]) (h := h) [(0, (11, b0, f0, s0))] ho ⟨rfl, trivial⟩).1 (fun x => (xovs (L := [(11, b0, f0, s0), (7, (b0 + 8), f1, s1), (0, b2, f2, s2), (2, (b0 + 26), f3, x2), (2, (b0 + 30), f4, x3)]) (h := h) [(0, (11, b0, f0, x.2))] ho ⟨rfl, trivial⟩).1) (fun x hx => pX11_refuse_ok (h := xw [(11, b0, f0, s0), (7, (b0 + 8), f1, s1), (0, b2, f2, s2), (2, (b0 + 26), f3, x2), (2, (b0 + 30), f4, x3)] h) (f0 := f0) (xok_sub ho [0] rfl (by decide)) s0 (8 : Int32) x hx) rfl (fun x6 _ => ?_)
      refine s_goto (tgt := 81) (pc := 72) dX11_apart_72 (by decide) ?_
      exact s_iret (pc := 81) dX11_apart_81 rfl (fun _ _ q => q)
    · refine s_aload_n (pc := 75) 2 dX11_apart_75 rfl ?_
      refine s_iload (pc := 76) 0 dX11_apart_76 rfl ?_
      refine x_callV (M := MX11_apart) (L := [(11, b0, f0, s0), (7, (b0 + 8), f1, s1), (0, b2, f2, s2), (2, (b0 + 26), f3, x2), (2, (b0 + 30), f4, x3)]) (h := h) (j := 0) (As := [.int x4]) (st := []) (A := fun (x : Int32 × RS) => some (.int x.1)) (Lc := [(11, b0, f0, s0)]) (Lr := fun (x : Int32 × RS) => [(11, b0, f0, x.2)]) (L2 := fun (x : Int32 × RS) => [(11, b0, f0, x.2), (7, (b0 + 8), f1, s1), (0, b2, f2, s2), (2, (b0 + 26), f3, x2), (2, (b0 + 30), f4, x3)]) cv_X11_169 (by decide) (pc := 78) dX11_apart_78 ho rfl xc0_11 rfl rfl (Nat.le_of_ble_eq_true rfl) (xovs (L := [(11, b0, f0, s0), (7, (b0 + 8), f1, s1), (0, b2, f2, s2), (2, (b0 + 26), f3, x2), (2, (b0 + 30), f4, x3)]) (h := h) [(0, (11, b0, f0, s0))] ho ⟨rfl, trivial⟩).1 (fun x => (xovs (L := [(11, b0, f0, s0), (7, (b0 + 8), f1, s1), (0, b2, f2, s2), (2, (b0 + 26), f3, x2), (2, (b0 + 30), f4, x3)]) (h := h) [(0, (11, b0, f0, x.2))] ho ⟨rfl, trivial⟩).1) (fun x hx => pX11_tell_ok (h := xw [(11, b0, f0, s0), (7, (b0 + 8), f1, s1), (0, b2, f2, s2), (2, (b0 + 26), f3, x2), (2, (b0 + 30), f4, x3)] h) (f0 := f0) (xok_sub ho [0] rfl (by decide)) s0 x4 x hx) rfl (fun x5 _ => ?_)
      exact s_iret (pc := 81) dX11_apart_81 rfl (fun _ _ q => q)
  · refine s_aload_n (pc := 11) 1 dX11_apart_11 rfl ?_
    refine s_iload_n (pc := 12) 0 dX11_apart_12 rfl ?_
    refine x_callV (M := MX11_apart) (L := [(11, b0, f0, s0), (7, (b0 + 8), f1, s1), (0, b2, f2, s2), (2, (b0 + 26), f3, s3), (2, (b0 + 30), f4, s4)]) (h := h) (j := 0) (As := [.int x1]) (st := []) (A := fun (x : Int32 × RS) => some (.int x.1)) (Lc := [(11, b0, f0, s0)]) (Lr := fun (x : Int32 × RS) => [(11, b0, f0, x.2)]) (L2 := fun (x : Int32 × RS) => [(11, b0, f0, x.2), (7, (b0 + 8), f1, s1), (0, b2, f2, s2), (2, (b0 + 26), f3, s3), (2, (b0 + 30), f4, s4)]) cv_X11_113 (by decide) (pc := 13) dX11_apart_13 ho rfl xc0_11 rfl rfl (Nat.le_of_ble_eq_true rfl) (xovs (L := [(11, b0, f0, s0), (7, (b0 + 8), f1, s1), (0, b2, f2, s2), (2, (b0 + 26), f3, s3), (2, (b0 + 30), f4, s4)]) (h := h) [(0, (11, b0, f0, s0))] ho ⟨rfl, trivial⟩).1 (fun x => (xovs (L := [(11, b0, f0, s0), (7, (b0 + 8), f1, s1), (0, b2, f2, s2), (2, (b0 + 26), f3, s3), (2, (b0 + 30), f4, s4)]) (h := h) [(0, (11, b0, f0, x.2))] ho ⟨rfl, trivial⟩).1) (fun x hx => pX11_refuse_ok (h := xw [(11, b0, f0, s0), (7, (b0 + 8), f1, s1), (0, b2, f2, s2), (2, (b0 + 26), f3, s3), (2, (b0 + 30), f4, s4)] h) (f0 := f0) (xok_sub ho [0] rfl (by decide)) s0 x1 x hx) rfl (fun x7 _ => ?_)
    exact s_iret (pc := 16) dX11_apart_16 rfl (fun _ _ q => q)
theorem pX11_apart_ok (ho : xok [(11, b0), (7, (b0 + 8)), (0, b2), (2, (b0 + 26)), (2, (b0 + 30))] h.2.1) (hq_1_0 : f1 0 = some b2) (s0 : RS) (s1 : RS) (s2 : RS) (s3 : RS) (s4 : RS) (a0 : Int32) (a1 : Int32) : ∀ x, pX11_apart s0 s1 s2 s3 s4 a0 a1 = some x → aMet l 4 yX11_apart cX11_apart 5 (some .int) [.ref b0, .int a0, .int a1] (xw [(11, b0, f0, s0), (7, (b0 + 8), f1, s1), (0, b2, f2, s2), (2, (b0 + 26), f3, s3), (2, (b0 + 30), f4, s4)] h) (some (.int x.1)) (xw [(11, b0, f0, x.2.1), (7, (b0 + 8), f1, s1), (0, b2, f2, s2), (2, (b0 + 26), f3, x.2.2.1), (2, (b0 + 30), f4, x.2.2.2)] h) := fun x hx => a_meth (ini := false) (y := yX11_apart) (by decide +kernel) (fun q => by cases q) (fun _ => Nat.le_of_ble_eq_true rfl) (pX11_apart_w ho hq_1_0 s0 s1 s2 s3 s4 a0 a1) x hx _ _ ⟨rfl, rfl⟩
end
section
variable {l : Launch} {n0 S0 : Nat} {h : aH} {b0 b2 : Nat} {f0 f1 f2 : Nat → Option Nat}
abbrev MX11_quarrels : aM := (cX11_quarrels, RX11, 2, (some .int), false)
def pX11_quarrels (s0 : RS) (s1 : RS) (s2 : RS) (a0 : Int32) : Option (Int32 × RS) :=
  (pX0_isSet s2 a0).bind fun x1 =>
  if x1 = true then
    (pX0_countQuarrels s2 a0).bind fun x2 =>
    (pX11_tell s0 x2).bind fun x3 =>
    some (x3.1, x3.2)
  else
    (pX11_refuse s0 (2 : Int32)).bind fun x4 =>
    some (x4.1, x4.2)
theorem pX11_quarrels_w (ho : xok [(11, b0), (7, (b0 + 8)), (0, b2)] h.2.1) (hq_1_0 : f1 0 = some b2) (s0 : RS) (s1 : RS) (s2 : RS) (a0 : Int32) : aS l 3 MX11_quarrels n0 S0 (oΦ (fun (x : Int32 × RS) => ((some (.int x.1)), xw [(11, b0, f0, x.2), (7, (b0 + 8), f1, s1), (0, b2, f2, s2)] h))) 0 [(0, .ref b0), (1, .int a0)] [] (xw [(11, b0, f0, s0), (7, (b0 + 8), f1, s1), (0, b2, f2, s2)] h) (pX11_quarrels s0 s1 s2 a0) := by
  unfold pX11_quarrels
  refine s_aload_n (pc := 0) 0 dX11_quarrels_0 rfl ?_
  refine xg_X11_25 0 ho rfl (pc := 1) dX11_quarrels_1 rfl ?_
  refine xg_X11_174 1 ho rfl (pc := 4) dX11_quarrels_4 rfl hq_1_0 ?_
  refine s_iload_n (pc := 7) 1 dX11_quarrels_7 rfl ?_
  refine x_callV (M := MX11_quarrels) (L := [(11, b0, f0, s0), (7, (b0 + 8), f1, s1), (0, b2, f2, s2)]) (h := h) (j := 2) (As := [.int a0]) (st := []) (A := fun (x : Bool) => some (.int (b2i x))) (Lc := [(0, b2, f2, s2)]) (Lr := fun (x : Bool) => [(0, b2, f2, s2)]) (L2 := fun (x : Bool) => [(11, b0, f0, s0), (7, (b0 + 8), f1, s1), (0, b2, f2, s2)]) cv_X11_241 (by decide) (pc := 8) dX11_quarrels_8 ho rfl xc0_0 rfl rfl (Nat.le_of_ble_eq_true rfl) (xovs (L := [(11, b0, f0, s0), (7, (b0 + 8), f1, s1), (0, b2, f2, s2)]) (h := h) [(2, (0, b2, f2, s2))] ho ⟨rfl, trivial⟩).1 (fun x => (xovs (L := [(11, b0, f0, s0), (7, (b0 + 8), f1, s1), (0, b2, f2, s2)]) (h := h) [(2, (0, b2, f2, s2))] ho ⟨rfl, trivial⟩).1) (fun x hx => pX0_isSet_ok (h := xw [(11, b0, f0, s0), (7, (b0 + 8), f1, s1), (0, b2, f2, s2)] h) (f0 := f2) (xok_sub ho [2] rfl (by decide)) s2 a0 x hx) rfl (fun x1 _ => ?_)
  refine s_if_neB (tgt := 20) (pc := 11) dX11_quarrels_11 (by decide) (fun _ => ?_) (fun _ => ?_)
  · refine s_aload_n (pc := 20) 0 dX11_quarrels_20 rfl ?_
    refine s_aload_n (pc := 21) 0 dX11_quarrels_21 rfl ?_
    refine xg_X11_25 0 ho rfl (pc := 22) dX11_quarrels_22 rfl ?_
    refine xg_X11_174 1 ho rfl (pc := 25) dX11_quarrels_25 rfl hq_1_0 ?_
    refine s_iload_n (pc := 28) 1 dX11_quarrels_28 rfl ?_
    refine x_callV (M := MX11_quarrels) (L := [(11, b0, f0, s0), (7, (b0 + 8), f1, s1), (0, b2, f2, s2)]) (h := h) (j := 2) (As := [.int a0]) (st := [.ref b0]) (A := fun (x : Int32) => some (.int x)) (Lc := [(0, b2, f2, s2)]) (Lr := fun (x : Int32) => [(0, b2, f2, s2)]) (L2 := fun (x : Int32) => [(11, b0, f0, s0), (7, (b0 + 8), f1, s1), (0, b2, f2, s2)]) cv_X11_302 (by decide) (pc := 29) dX11_quarrels_29 ho rfl xc0_0 rfl rfl (Nat.le_of_ble_eq_true rfl) (xovs (L := [(11, b0, f0, s0), (7, (b0 + 8), f1, s1), (0, b2, f2, s2)]) (h := h) [(2, (0, b2, f2, s2))] ho ⟨rfl, trivial⟩).1 (fun x => (xovs (L := [(11, b0, f0, s0), (7, (b0 + 8), f1, s1), (0, b2, f2, s2)]) (h := h) [(2, (0, b2, f2, s2))] ho ⟨rfl, trivial⟩).1) (fun x hx => pX0_countQuarrels_ok (h := xw [(11, b0, f0, s0), (7, (b0 + 8), f1, s1), (0, b2, f2, s2)] h) (f0 := f2) (xok_sub ho [2] rfl (by decide)) s2 a0 x hx) rfl (fun x2 _ => ?_)
    refine x_callV (M := MX11_quarrels) (L := [(11, b0, f0, s0), (7, (b0 + 8), f1, s1), (0, b2, f2, s2)]) (h := h) (j := 0) (As := [.int x2]) (st := []) (A := fun (x : Int32 × RS) => some (.int x.1)) (Lc := [(11, b0, f0, s0)]) (Lr := fun (x : Int32 × RS) => [(11, b0, f0, x.2)]) (L2 := fun (x : Int32 × RS) => [(11, b0, f0, x.2), (7, (b0 + 8), f1, s1), (0, b2, f2, s2)]) cv_X11_169 (by decide) (pc := 32) dX11_quarrels_32 ho rfl xc0_11 rfl rfl (Nat.le_of_ble_eq_true rfl) (xovs (L := [(11, b0, f0, s0), (7, (b0 + 8), f1, s1), (0, b2, f2, s2)]) (h := h) [(0, (11, b0, f0, s0))] ho ⟨rfl, trivial⟩).1 (fun x => (xovs (L := [(11, b0, f0, s0), (7, (b0 + 8), f1, s1), (0, b2, f2, s2)]) (h := h) [(0, (11, b0, f0, x.2))] ho ⟨rfl, trivial⟩).1) (fun x hx => pX11_tell_ok (h := xw [(11, b0, f0, s0), (7, (b0 + 8), f1, s1), (0, b2, f2, s2)] h) (f0 := f0) (xok_sub ho [0] rfl (by decide)) s0 x2 x hx) rfl (fun x3 _ => ?_)
    exact s_iret (pc := 35) dX11_quarrels_35 rfl (fun _ _ q => q)
  · refine s_aload_n (pc := 14) 0 dX11_quarrels_14 rfl ?_
    refine s_iconst (v := 2) (pc := 15) dX11_quarrels_15 (by decide) ?_
    refine x_callV (M := MX11_quarrels) (L := [(11, b0, f0, s0), (7, (b0 + 8), f1, s1), (0, b2, f2, s2)]) (h := h) (j := 0) (As := [.int 2]) (st := []) (A := fun (x : Int32 × RS) => some (.int x.1)) (Lc := [(11, b0, f0, s0)]) (Lr := fun (x : Int32 × RS) => [(11, b0, f0, x.2)]) (L2 := fun (x : Int32 × RS) => [(11, b0, f0, x.2), (7, (b0 + 8), f1, s1), (0, b2, f2, s2)]) cv_X11_113 (by decide) (pc := 16) dX11_quarrels_16 ho rfl xc0_11 rfl rfl (Nat.le_of_ble_eq_true rfl) (xovs (L := [(11, b0, f0, s0), (7, (b0 + 8), f1, s1), (0, b2, f2, s2)]) (h := h) [(0, (11, b0, f0, s0))] ho ⟨rfl, trivial⟩).1 (fun x => (xovs (L := [(11, b0, f0, s0), (7, (b0 + 8), f1, s1), (0, b2, f2, s2)]) (h := h) [(0, (11, b0, f0, x.2))] ho ⟨rfl, trivial⟩).1) (fun x hx => pX11_refuse_ok (h := xw [(11, b0, f0, s0), (7, (b0 + 8), f1, s1), (0, b2, f2, s2)] h) (f0 := f0) (xok_sub ho [0] rfl (by decide)) s0 (2 : Int32) x hx) rfl (fun x4 _ => ?_)
    exact s_iret (pc := 19) dX11_quarrels_19 rfl (fun _ _ q => q)
theorem pX11_quarrels_ok (ho : xok [(11, b0), (7, (b0 + 8)), (0, b2)] h.2.1) (hq_1_0 : f1 0 = some b2) (s0 : RS) (s1 : RS) (s2 : RS) (a0 : Int32) : ∀ x, pX11_quarrels s0 s1 s2 a0 = some x → aMet l 3 yX11_quarrels cX11_quarrels 2 (some .int) [.ref b0, .int a0] (xw [(11, b0, f0, s0), (7, (b0 + 8), f1, s1), (0, b2, f2, s2)] h) (some (.int x.1)) (xw [(11, b0, f0, x.2), (7, (b0 + 8), f1, s1), (0, b2, f2, s2)] h) := fun x hx => a_meth (ini := false) (y := yX11_quarrels) (by decide +kernel) (fun q => by cases q) (fun _ => Nat.le_of_ble_eq_true rfl) (pX11_quarrels_w ho hq_1_0 s0 s1 s2 a0) x hx _ _ ⟨rfl, rfl⟩
end
section
variable {l : Launch} {n0 S0 : Nat} {h : aH} {b0 b2 : Nat} {f0 f1 f2 : Nat → Option Nat}
abbrev MX11_with : aM := (cX11_with, RX11, 3, (some .int), false)
def X11_with_j28 (s0 : RS) (s1 : RS) (s2 : RS) : Option (Int32 × RS) :=
  (pX11_refuse s0 (2 : Int32)).bind fun x2 =>
  some (x2.1, x2.2)
theorem X11_with_j28_ok (ho : xok [(11, b0), (7, (b0 + 8)), (0, b2)] h.2.1) (hq_1_0 : f1 0 = some b2) (s0 : RS) (s1 : RS) (s2 : RS) : aS l 2 MX11_with n0 S0 (oΦ (fun (x : Int32 × RS) => ((some (.int x.1)), xw [(11, b0, f0, x.2), (7, (b0 + 8), f1, s1), (0, b2, f2, s2)] h))) 28 [(0, .ref b0)] [] (xw [(11, b0, f0, s0), (7, (b0 + 8), f1, s1), (0, b2, f2, s2)] h) (X11_with_j28 s0 s1 s2) := by
  unfold X11_with_j28
  refine s_aload_n (pc := 28) 0 dX11_with_28 rfl ?_
  refine s_iconst (v := 2) (pc := 29) dX11_with_29 (by decide) ?_
  refine x_callV (M := MX11_with) (L := [(11, b0, f0, s0), (7, (b0 + 8), f1, s1), (0, b2, f2, s2)]) (h := h) (j := 0) (As := [.int 2]) (st := []) (A := fun (x : Int32 × RS) => some (.int x.1)) (Lc := [(11, b0, f0, s0)]) (Lr := fun (x : Int32 × RS) => [(11, b0, f0, x.2)]) (L2 := fun (x : Int32 × RS) => [(11, b0, f0, x.2), (7, (b0 + 8), f1, s1), (0, b2, f2, s2)]) cv_X11_113 (by decide) (pc := 30) dX11_with_30 ho rfl xc0_11 rfl rfl (Nat.le_of_ble_eq_true rfl) (xovs (L := [(11, b0, f0, s0), (7, (b0 + 8), f1, s1), (0, b2, f2, s2)]) (h := h) [(0, (11, b0, f0, s0))] ho ⟨rfl, trivial⟩).1 (fun x => (xovs (L := [(11, b0, f0, s0), (7, (b0 + 8), f1, s1), (0, b2, f2, s2)]) (h := h) [(0, (11, b0, f0, x.2))] ho ⟨rfl, trivial⟩).1) (fun x hx => pX11_refuse_ok (h := xw [(11, b0, f0, s0), (7, (b0 + 8), f1, s1), (0, b2, f2, s2)] h) (f0 := f0) (xok_sub ho [0] rfl (by decide)) s0 (2 : Int32) x hx) rfl (fun x2 _ => ?_)
  exact s_iret (pc := 33) dX11_with_33 rfl (fun _ _ q => q)
def pX11_with (s0 : RS) (s1 : RS) (s2 : RS) (a0 : Int32) (a1 : Int32) : Option (Int32 × RS) :=
  (pX0_isSet s2 a0).bind fun x1 =>
  if x1 = true then
    (pX0_isChange s2 a1).bind fun x3 =>
    if x3 = true then
      (pX0_isIn a0 a1).bind fun x4 =>
      if x4 = true then
        (pX0_quarrelersOf s2 a0 a1).bind fun x5 =>
        (pX11_tell s0 x5).bind fun x6 =>
        some (x6.1, x6.2)
      else
        (pX11_refuse s0 (8 : Int32)).bind fun x7 =>
        some (x7.1, x7.2)
    else
      X11_with_j28 s0 s1 s2
  else
    X11_with_j28 s0 s1 s2
theorem pX11_with_w (ho : xok [(11, b0), (7, (b0 + 8)), (0, b2)] h.2.1) (hq_1_0 : f1 0 = some b2) (s0 : RS) (s1 : RS) (s2 : RS) (a0 : Int32) (a1 : Int32) : aS l 2 MX11_with n0 S0 (oΦ (fun (x : Int32 × RS) => ((some (.int x.1)), xw [(11, b0, f0, x.2), (7, (b0 + 8), f1, s1), (0, b2, f2, s2)] h))) 0 [(0, .ref b0), (1, .int a0), (2, .int a1)] [] (xw [(11, b0, f0, s0), (7, (b0 + 8), f1, s1), (0, b2, f2, s2)] h) (pX11_with s0 s1 s2 a0 a1) := by
  unfold pX11_with
  refine s_aload_n (pc := 0) 0 dX11_with_0 rfl ?_
  refine xg_X11_25 0 ho rfl (pc := 1) dX11_with_1 rfl ?_
  refine xg_X11_174 1 ho rfl (pc := 4) dX11_with_4 rfl hq_1_0 ?_
  refine s_iload_n (pc := 7) 1 dX11_with_7 rfl ?_
  refine x_callV (M := MX11_with) (L := [(11, b0, f0, s0), (7, (b0 + 8), f1, s1), (0, b2, f2, s2)]) (h := h) (j := 2) (As := [.int a0]) (st := []) (A := fun (x : Bool) => some (.int (b2i x))) (Lc := [(0, b2, f2, s2)]) (Lr := fun (x : Bool) => [(0, b2, f2, s2)]) (L2 := fun (x : Bool) => [(11, b0, f0, s0), (7, (b0 + 8), f1, s1), (0, b2, f2, s2)]) cv_X11_241 (by decide) (pc := 8) dX11_with_8 ho rfl xc0_0 rfl rfl (Nat.le_of_ble_eq_true rfl) (xovs (L := [(11, b0, f0, s0), (7, (b0 + 8), f1, s1), (0, b2, f2, s2)]) (h := h) [(2, (0, b2, f2, s2))] ho ⟨rfl, trivial⟩).1 (fun x => (xovs (L := [(11, b0, f0, s0), (7, (b0 + 8), f1, s1), (0, b2, f2, s2)]) (h := h) [(2, (0, b2, f2, s2))] ho ⟨rfl, trivial⟩).1) (fun x hx => pX0_isSet_ok (h := xw [(11, b0, f0, s0), (7, (b0 + 8), f1, s1), (0, b2, f2, s2)] h) (f0 := f2) (xok_sub ho [2] rfl (by decide)) s2 a0 x hx) rfl (fun x1 _ => ?_)
  refine s_if_eqB (tgt := 28) (pc := 11) dX11_with_11 (by decide) (fun _ => ?_) (fun _ => ?_)
  · refine s_aload_n (pc := 14) 0 dX11_with_14 rfl ?_
    refine xg_X11_25 0 ho rfl (pc := 15) dX11_with_15 rfl ?_
    refine xg_X11_174 1 ho rfl (pc := 18) dX11_with_18 rfl hq_1_0 ?_
    refine s_iload_n (pc := 21) 2 dX11_with_21 rfl ?_
    refine x_callV (M := MX11_with) (L := [(11, b0, f0, s0), (7, (b0 + 8), f1, s1), (0, b2, f2, s2)]) (h := h) (j := 2) (As := [.int a1]) (st := []) (A := fun (x : Bool) => some (.int (b2i x))) (Lc := [(0, b2, f2, s2)]) (Lr := fun (x : Bool) => [(0, b2, f2, s2)]) (L2 := fun (x : Bool) => [(11, b0, f0, s0), (7, (b0 + 8), f1, s1), (0, b2, f2, s2)]) cv_X11_212 (by decide) (pc := 22) dX11_with_22 ho rfl xc0_0 rfl rfl (Nat.le_of_ble_eq_true rfl) (xovs (L := [(11, b0, f0, s0), (7, (b0 + 8), f1, s1), (0, b2, f2, s2)]) (h := h) [(2, (0, b2, f2, s2))] ho ⟨rfl, trivial⟩).1 (fun x => (xovs (L := [(11, b0, f0, s0), (7, (b0 + 8), f1, s1), (0, b2, f2, s2)]) (h := h) [(2, (0, b2, f2, s2))] ho ⟨rfl, trivial⟩).1) (fun x hx => pX0_isChange_ok (h := xw [(11, b0, f0, s0), (7, (b0 + 8), f1, s1), (0, b2, f2, s2)] h) (f0 := f2) (xok_sub ho [2] rfl (by decide)) s2 a1 x hx) rfl (fun x3 _ => ?_)
    refine s_if_neB (tgt := 34) (pc := 25) dX11_with_25 (by decide) (fun _ => ?_) (fun _ => ?_)
    · refine s_iload_n (pc := 34) 1 dX11_with_34 rfl ?_
      refine s_iload_n (pc := 35) 2 dX11_with_35 rfl ?_
      refine s_callS (M := MX11_with) (As := [.int a0, .int a1]) (st := []) (Ψ := fun (x : Bool) => (some (.int (b2i x)), xw [(11, b0, f0, s0), (7, (b0 + 8), f1, s1), (0, b2, f2, s2)] h)) cs_X11_305 (by decide) (pc := 36) dX11_with_36 rfl (Nat.le_of_ble_eq_true rfl) (fun x hx => pX0_isIn_ok a0 a1 x hx) rfl (fun x4 _ => ?_)
      refine s_if_neB (tgt := 49) (pc := 39) dX11_with_39 (by decide) (fun _ => ?_) (fun _ => ?_)
      · refine s_aload_n (pc := 49) 0 dX11_with_49 rfl ?_
        refine s_aload_n (pc := 50) 0 dX11_with_50 rfl ?_
        refine xg_X11_25 0 ho rfl (pc := 51) dX11_with_51 rfl ?_
        refine xg_X11_174 1 ho rfl (pc := 54) dX11_with_54 rfl hq_1_0 ?_
        refine s_iload_n (pc := 57) 1 dX11_with_57 rfl ?_
        refine s_iload_n (pc := 58) 2 dX11_with_58 rfl ?_
        refine x_callV (M := MX11_with) (L := [(11, b0, f0, s0), (7, (b0 + 8), f1, s1), (0, b2, f2, s2)]) (h := h) (j := 2) (As := [.int a0, .int a1]) (st := [.ref b0]) (A := fun (x : Int32) => some (.int x)) (Lc := [(0, b2, f2, s2)]) (Lr := fun (x : Int32) => [(0, b2, f2, s2)]) (L2 := fun (x : Int32) => [(11, b0, f0, s0), (7, (b0 + 8), f1, s1), (0, b2, f2, s2)]) cv_X11_308 (by decide) (pc := 59) dX11_with_59 ho rfl xc0_0 rfl rfl (Nat.le_of_ble_eq_true rfl) (xovs (L := [(11, b0, f0, s0), (7, (b0 + 8), f1, s1), (0, b2, f2, s2)]) (h := h) [(2, (0, b2, f2, s2))] ho ⟨rfl, trivial⟩).1 (fun x => (xovs (L := [(11, b0, f0, s0), (7, (b0 + 8), f1, s1), (0, b2, f2, s2)]) (h := h) [(2, (0, b2, f2, s2))] ho ⟨rfl, trivial⟩).1) (fun x hx => pX0_quarrelersOf_ok (h := xw [(11, b0, f0, s0), (7, (b0 + 8), f1, s1), (0, b2, f2, s2)] h) (f0 := f2) (xok_sub ho [2] rfl (by decide)) s2 a0 a1 x hx) rfl (fun x5 _ => ?_)
        refine x_callV (M := MX11_with) (L := [(11, b0, f0, s0), (7, (b0 + 8), f1, s1), (0, b2, f2, s2)]) (h := h) (j := 0) (As := [.int x5]) (st := []) (A := fun (x : Int32 × RS) => some (.int x.1)) (Lc := [(11, b0, f0, s0)]) (Lr := fun (x : Int32 × RS) => [(11, b0, f0, x.2)]) (L2 := fun (x : Int32 × RS) => [(11, b0, f0, x.2), (7, (b0 + 8), f1, s1), (0, b2, f2, s2)]) cv_X11_169 (by decide) (pc := 62) dX11_with_62 ho rfl xc0_11 rfl rfl (Nat.le_of_ble_eq_true rfl) (xovs (L := [(11, b0, f0, s0), (7, (b0 + 8), f1, s1), (0, b2, f2, s2)]) (h := h) [(0, (11, b0, f0, s0))] ho ⟨rfl, trivial⟩).1 (fun x => (xovs (L := [(11, b0, f0, s0), (7, (b0 + 8), f1, s1), (0, b2, f2, s2)]) (h := h) [(0, (11, b0, f0, x.2))] ho ⟨rfl, trivial⟩).1) (fun x hx => pX11_tell_ok (h := xw [(11, b0, f0, s0), (7, (b0 + 8), f1, s1), (0, b2, f2, s2)] h) (f0 := f0) (xok_sub ho [0] rfl (by decide)) s0 x5 x hx) rfl (fun x6 _ => ?_)
        exact s_iret (pc := 65) dX11_with_65 rfl (fun _ _ q => q)
      · refine s_aload_n (pc := 42) 0 dX11_with_42 rfl ?_
        refine s_bipush (v := 8) (pc := 43) dX11_with_43 (by decide) ?_
        refine x_callV (M := MX11_with) (L := [(11, b0, f0, s0), (7, (b0 + 8), f1, s1), (0, b2, f2, s2)]) (h := h) (j := 0) (As := [.int 8]) (st := []) (A := fun (x : Int32 × RS) => some (.int x.1)) (Lc := [(11, b0, f0, s0)]) (Lr := fun (x : Int32 × RS) => [(11, b0, f0, x.2)]) (L2 := fun (x : Int32 × RS) => [(11, b0, f0, x.2), (7, (b0 + 8), f1, s1), (0, b2, f2, s2)]) cv_X11_113 (by decide) (pc := 45) dX11_with_45 ho rfl xc0_11 rfl rfl (Nat.le_of_ble_eq_true rfl) (xovs (L := [(11, b0, f0, s0), (7, (b0 + 8), f1, s1), (0, b2, f2, s2)]) (h := h) [(0, (11, b0, f0, s0))] ho ⟨rfl, trivial⟩).1 (fun x => (xovs (L := [(11, b0, f0, s0), (7, (b0 + 8), f1, s1), (0, b2, f2, s2)]) (h := h) [(0, (11, b0, f0, x.2))] ho ⟨rfl, trivial⟩).1) (fun x hx => pX11_refuse_ok (h := xw [(11, b0, f0, s0), (7, (b0 + 8), f1, s1), (0, b2, f2, s2)] h) (f0 := f0) (xok_sub ho [0] rfl (by decide)) s0 (8 : Int32) x hx) rfl (fun x7 _ => ?_)
        exact s_iret (pc := 48) dX11_with_48 rfl (fun _ _ q => q)
    · refine s_sub [0] rfl ?_
      exact X11_with_j28_ok ho hq_1_0 s0 s1 s2
  · refine s_sub [0] rfl ?_
    exact X11_with_j28_ok ho hq_1_0 s0 s1 s2
theorem pX11_with_ok (ho : xok [(11, b0), (7, (b0 + 8)), (0, b2)] h.2.1) (hq_1_0 : f1 0 = some b2) (s0 : RS) (s1 : RS) (s2 : RS) (a0 : Int32) (a1 : Int32) : ∀ x, pX11_with s0 s1 s2 a0 a1 = some x → aMet l 2 yX11_with cX11_with 3 (some .int) [.ref b0, .int a0, .int a1] (xw [(11, b0, f0, s0), (7, (b0 + 8), f1, s1), (0, b2, f2, s2)] h) (some (.int x.1)) (xw [(11, b0, f0, x.2), (7, (b0 + 8), f1, s1), (0, b2, f2, s2)] h) := fun x hx => a_meth (ini := false) (y := yX11_with) (by decide +kernel) (fun q => by cases q) (fun _ => Nat.le_of_ble_eq_true rfl) (pX11_with_w ho hq_1_0 s0 s1 s2 a0 a1) x hx _ _ ⟨rfl, rfl⟩
end
section
variable {l : Launch} {n0 S0 : Nat} {h : aH}
abbrev MX11_commonDivisor : aM := (cX11_commonDivisor, RX11, 11, (some .long), false)
def X11_commonDivisor_x9 (l : Launch) (n0 S0 : Nat) (h : aH) : Int64 → Option Value → aH → Prop := fun (x : Int64) r h' => aEv l 0 MX11_commonDivisor n0 S0 45 [(4, .long x)] [] (h) r h'
def X11_commonDivisor_b9 (v4 : Int64) (v6 : Int64) (v8 : Int32) : Option ((Int64 × Int64 × Int32) ⊕ Int64) :=
  if (200 : Int32) ≤ v8 then
    some (.inr v4)
  else
    if v6 = (0 : Int64) then
      some (.inr v4)
    else
      g_nzL v6 (
      thn (v4 - v4 / v6 * v6) fun x1 =>
      thn (v8 + 1) fun x2 =>
      some (.inl (v6, x1, x2)))
theorem X11_commonDivisor_b9_ok (v4 : Int64) (v6 : Int64) (v8 : Int32) : aS l 0 MX11_commonDivisor n0 S0 (a_LΦ (X11_commonDivisor_x9 l n0 S0 h) l 0 MX11_commonDivisor n0 S0 9 (fun (q : Int64 × Int64 × Int32) => [(4, .long q.1), (6, .long q.2.1), (8, .int q.2.2)]) (fun _ => []) (fun (q : Int64 × Int64 × Int32) => h)) 9 [(4, .long v4), (6, .long v6), (8, .int v8)] [] (h) (X11_commonDivisor_b9 v4 v6 v8) := by
  unfold X11_commonDivisor_b9
  refine s_iload (pc := 9) 2 dX11_commonDivisor_9 rfl ?_
  refine s_sipush (v := 200) (pc := 11) dX11_commonDivisor_11 (by decide) ?_
  refine s_icmp_ge (tgt := 45) (pc := 14) dX11_commonDivisor_14 (by decide) (fun _ => ?_) (fun _ => ?_)
  · refine s_sub [0] rfl ?_
    exact s_ev (fun _ _ q => q)
  · refine s_lload (pc := 17) 1 dX11_commonDivisor_17 rfl ?_
    refine s_lconst (v := 0) (pc := 19) dX11_commonDivisor_19 (by decide) ?_
    refine s_lcmp (pc := 20) dX11_commonDivisor_20 ?_
    refine s_ifL (lg_cmp_z _ _) (s_if_eq (tgt := 45) (pc := 21) dX11_commonDivisor_21 (by decide) (fun _ => ?_) (fun _ => ?_))
    · refine s_sub [0] rfl ?_
      exact s_ev (fun _ _ q => q)
    · refine s_lload (pc := 24) 0 dX11_commonDivisor_24 rfl ?_
      refine s_lload (pc := 26) 1 dX11_commonDivisor_26 rfl ?_
      refine s_lrem (pc := 28) dX11_commonDivisor_28 ?_
      refine s_lstoreT (lv' := fun x1 => [(9, .long x1), (4, .long v4), (6, .long v6), (8, .int v8)]) (pc := 29) dX11_commonDivisor_29 (by decide) (fun _ => rfl) (fun x1 => ?_)
      refine s_lload (pc := 31) 2 dX11_commonDivisor_31 rfl ?_
      refine s_lstore (lv' := [(4, .long v6), (9, .long x1), (6, .long v6), (8, .int v8)]) (pc := 33) dX11_commonDivisor_33 (by decide) rfl ?_
      refine s_lload (pc := 35) 1 dX11_commonDivisor_35 rfl ?_
      refine s_lstore (lv' := [(6, .long x1), (4, .long v6), (9, .long x1), (8, .int v8)]) (pc := 37) dX11_commonDivisor_37 (by decide) rfl ?_
      refine s_iincT (pc := 39) 3 (lv' := fun x2 => [(8, .int x2), (6, .long x1), (4, .long v6), (9, .long x1)]) dX11_commonDivisor_39 rfl rfl (by decide) (fun _ => rfl) (fun x2 => ?_)
      refine s_goto (tgt := 9) (pc := 42) dX11_commonDivisor_42 (by decide) ?_
      refine s_sub [2, 1, 0] rfl ?_
      exact s_ev (fun _ _ q => q)
def pX11_commonDivisor (a0 : Int64) (a1 : Int64) : Option Int64 :=
  (a_loop (fun (q : Int64 × Int64 × Int32) => X11_commonDivisor_b9 q.1 q.2.1 q.2.2) FU (a0, a1, (0 : Int32))).bind fun (t3 : Int64) =>
    some t3
theorem pX11_commonDivisor_w (a0 : Int64) (a1 : Int64) : aS l 0 MX11_commonDivisor n0 S0 (oΦ (fun (x : Int64) => ((some (.long x)), h))) 0 [(0, .long a0), (2, .long a1)] [] (h) (pX11_commonDivisor a0 a1) := by
  unfold pX11_commonDivisor
  refine s_lload_n (pc := 0) 0 dX11_commonDivisor_0 rfl ?_
  refine s_lstore (lv' := [(4, .long a0), (0, .long a0), (2, .long a1)]) (pc := 1) dX11_commonDivisor_1 (by decide) rfl ?_
  refine s_lload_n (pc := 3) 2 dX11_commonDivisor_3 rfl ?_
  refine s_lstore (lv' := [(6, .long a1), (4, .long a0), (0, .long a0), (2, .long a1)]) (pc := 4) dX11_commonDivisor_4 (by decide) rfl ?_
  refine s_iconst (v := 0) (pc := 6) dX11_commonDivisor_6 (by decide) ?_
  refine s_istore (lv' := [(8, .int 0), (6, .long a1), (4, .long a0), (0, .long a0), (2, .long a1)]) (pc := 7) dX11_commonDivisor_7 (by decide) rfl ?_
  refine s_bind (Ψ := X11_commonDivisor_x9 l n0 S0 h) ?_ ?_
  · refine s_sub [2, 1, 0] rfl ?_
    exact s_loop (lvf := fun (q : Int64 × Int64 × Int32) => [(4, .long q.1), (6, .long q.2.1), (8, .int q.2.2)]) (stf := fun _ => []) (hf := fun (q : Int64 × Int64 × Int32) => h) (fun q => X11_commonDivisor_b9_ok q.1 q.2.1 q.2.2) FU (a0, a1, (0 : Int32))
  · intro t3 z r h' hz hr
    refine (?_ : aS l 0 MX11_commonDivisor n0 S0 (oΦ (fun (x : Int64) => ((some (.long x)), h))) 45 [(4, .long t3)] [] (h) _) z hz r h' hr
    refine s_lload (pc := 45) 0 dX11_commonDivisor_45 rfl ?_
    exact s_lret (pc := 47) dX11_commonDivisor_47 rfl (fun _ _ q => q)
theorem pX11_commonDivisor_ok (a0 : Int64) (a1 : Int64) : ∀ x, pX11_commonDivisor a0 a1 = some x → aMet l 0 yX11_commonDivisor cX11_commonDivisor 11 (some .long) [.long a0, .long a1] (h) (some (.long x)) (h) := fun x hx => a_meth (ini := false) (y := yX11_commonDivisor) (by decide +kernel) (fun q => by cases q) (fun _ => Nat.le_of_ble_eq_true rfl) (pX11_commonDivisor_w a0 a1) x hx _ _ ⟨rfl, rfl⟩
end
section
variable {l : Launch} {n0 S0 : Nat} {h : aH} {b0 : Nat} {f0 : Nat → Option Nat}
abbrev MX11_tellFraction : aM := (cX11_tellFraction, RX11, 7, none, false)
def pX11_tellFraction (s0 : RS) (a0 : Int64) (a1 : Int64) : Option RS :=
  (pX11_commonDivisor a0 a1).bind fun x1 =>
  if x1 ≤ (0 : Int64) then
    some s0
  else
    g_nzL x1 (
    thn (uL s0 12 (a0 / x1)) fun s_2 =>
    g_nzL x1 (
    thn (uL s_2 13 (a1 / x1)) fun s_3 =>
    some s_3))
theorem pX11_tellFraction_w (ho : xok [(11, b0)] h.2.1) (s0 : RS) (a0 : Int64) (a1 : Int64) : aS l 1 MX11_tellFraction n0 S0 (oΦ (fun (x : RS) => (none, xw [(11, b0, f0, x)] h))) 0 [(0, .ref b0), (1, .long a0), (3, .long a1)] [] (xw [(11, b0, f0, s0)] h) (pX11_tellFraction s0 a0 a1) := by
  unfold pX11_tellFraction
  refine s_lload_n (pc := 0) 1 dX11_tellFraction_0 rfl ?_
  refine s_lload_n (pc := 1) 2 dX11_tellFraction_1 rfl ?_
  refine s_callS (M := MX11_tellFraction) (As := [.long a0, .long a1]) (st := []) (Ψ := fun (x : Int64) => (some (.long x), xw [(11, b0, f0, s0)] h)) cs_X11_333 (by decide) (pc := 2) dX11_tellFraction_2 rfl (Nat.le_of_ble_eq_true rfl) (fun x hx => pX11_commonDivisor_ok a0 a1 x hx) rfl (fun x1 _ => ?_)
  refine s_lstore (lv' := [(5, .long x1), (0, .ref b0), (1, .long a0), (3, .long a1)]) (pc := 5) dX11_tellFraction_5 (by decide) rfl ?_
  refine s_lload (pc := 7) 0 dX11_tellFraction_7 rfl ?_
  refine s_lconst (v := 0) (pc := 9) dX11_tellFraction_9 (by decide) ?_
  refine s_lcmp (pc := 10) dX11_tellFraction_10 ?_
  refine s_ifL (lg_cmp_le _ _) (s_if_le (tgt := 30) (pc := 11) dX11_tellFraction_11 (by decide) (fun _ => ?_) (fun _ => ?_))
  · exact s_vret (pc := 30) dX11_tellFraction_30 rfl (fun _ _ q => q)
  · refine s_aload_n (pc := 14) 1 dX11_tellFraction_14 rfl ?_
    refine s_lload_n (pc := 15) 2 dX11_tellFraction_15 rfl ?_
    refine s_lload (pc := 16) 0 dX11_tellFraction_16 rfl ?_
    refine s_ldiv (pc := 18) dX11_tellFraction_18 ?_
    refine xp_X11_72 (L' := fun s_2 => [(11, b0, f0, s_2)]) 0 ho rfl (fun _ => rfl) (pc := 19) dX11_tellFraction_19 rfl (fun s_2 => ?_)
    refine s_aload_n (pc := 22) 1 dX11_tellFraction_22 rfl ?_
    refine s_lload_n (pc := 23) 3 dX11_tellFraction_23 rfl ?_
    refine s_lload (pc := 24) 0 dX11_tellFraction_24 rfl ?_
    refine s_ldiv (pc := 26) dX11_tellFraction_26 ?_
    refine xp_X11_76 (L' := fun s_3 => [(11, b0, f0, s_3)]) 0 ho rfl (fun _ => rfl) (pc := 27) dX11_tellFraction_27 rfl (fun s_3 => ?_)
    exact s_vret (pc := 30) dX11_tellFraction_30 rfl (fun _ _ q => q)
theorem pX11_tellFraction_ok (ho : xok [(11, b0)] h.2.1) (s0 : RS) (a0 : Int64) (a1 : Int64) : ∀ x, pX11_tellFraction s0 a0 a1 = some x → aMet l 1 yX11_tellFraction cX11_tellFraction 7 none [.ref b0, .long a0, .long a1] (xw [(11, b0, f0, s0)] h) none (xw [(11, b0, f0, x)] h) := fun x hx => a_meth (ini := false) (y := yX11_tellFraction) (by decide +kernel) (fun q => by cases q) (fun _ => Nat.le_of_ble_eq_true rfl) (pX11_tellFraction_w ho s0 a0 a1) x hx _ _ ⟨rfl, rfl⟩
end
section
variable {l : Launch} {n0 S0 : Nat} {h : aH} {b0 b2 b3 : Nat} {f0 f1 f2 f3 : Nat → Option Nat}
abbrev MX11_areChangesOnce : aM := (cX11_areChangesOnce, RX11, 7, (some .boolean), false)
def X11_areChangesOnce_x5 (l : Launch) (n0 S0 : Nat) (h : aH) (b0 : Nat) (b2 : Nat) (b3 : Nat) (f0 : Nat → Option Nat) (f1 : Nat → Option Nat) (f2 : Nat → Option Nat) (f3 : Nat → Option Nat) (v2 : Int32) (s0 : RS) (s1 : RS) (s2 : RS) (s3 : RS) : (Unit ⊕ Unit) → Option Value → aH → Prop := Sum.elim (fun (x : Unit) (r : Option Value) (h' : aH) => aEv l 1 MX11_areChangesOnce n0 S0 53 [] [] (xw [(11, b0, f0, s0), (7, (b0 + 8), f1, s1), (0, b2, f2, s2), (9, b3, f3, s3)] h) r h') (fun (x : Unit) (r : Option Value) (h' : aH) => aEv l 1 MX11_areChangesOnce n0 S0 69 [] [] (xw [(11, b0, f0, s0), (7, (b0 + 8), f1, s1), (0, b2, f2, s2), (9, b3, f3, s3)] h) r h')
def X11_areChangesOnce_b5 (v2 : Int32) (v3 : Int32) (v4 : Int32) (s0 : RS) (s1 : RS) (s2 : RS) (s3 : RS) : Option ((Int32 × Int32) ⊕ (Unit ⊕ Unit)) :=
  if v2 ≤ v4 then
    some (.inr (.inr ()))
  else
    (pX9_get s3 v4).bind fun x1 =>
    if x1 < (0 : Int64) then
      some (.inr (.inl ()))
    else
      if (s2.1 1).toInt64 ≤ x1 then
        some (.inr (.inl ()))
      else
        (pX0_isIn v3 x1.toInt32).bind fun x2 =>
        if x2 = true then
          some (.inr (.inl ()))
        else
          thn (v3 ||| ((1 : Int32) <<< (x1.toInt32 &&& 31))) fun x3 =>
          thn (v4 + 1) fun x4 =>
          some (.inl (x3, x4))
theorem X11_areChangesOnce_b5_ok (ho : xok [(11, b0), (7, (b0 + 8)), (0, b2), (9, b3)] h.2.1) (hq_1_0 : f1 0 = some b2) (v2 : Int32) (v3 : Int32) (v4 : Int32) (s0 : RS) (s1 : RS) (s2 : RS) (s3 : RS) : aS l 1 MX11_areChangesOnce n0 S0 (a_LΦ (X11_areChangesOnce_x5 l n0 S0 h b0 b2 b3 f0 f1 f2 f3 v2 s0 s1 s2 s3) l 1 MX11_areChangesOnce n0 S0 5 (fun (q : Int32 × Int32) => [(0, .ref b0), (1, .ref b3), (2, .int v2), (3, .int q.1), (4, .int q.2)]) (fun _ => []) (fun (q : Int32 × Int32) => xw [(11, b0, f0, s0), (7, (b0 + 8), f1, s1), (0, b2, f2, s2), (9, b3, f3, s3)] h)) 5 [(0, .ref b0), (1, .ref b3), (2, .int v2), (3, .int v3), (4, .int v4)] [] (xw [(11, b0, f0, s0), (7, (b0 + 8), f1, s1), (0, b2, f2, s2), (9, b3, f3, s3)] h) (X11_areChangesOnce_b5 v2 v3 v4 s0 s1 s2 s3) := by
  unfold X11_areChangesOnce_b5
  refine s_iload (pc := 5) 4 dX11_areChangesOnce_5 rfl ?_
  refine s_iload_n (pc := 7) 2 dX11_areChangesOnce_7 rfl ?_
  refine s_icmp_ge (tgt := 69) (pc := 8) dX11_areChangesOnce_8 (by decide) (fun _ => ?_) (fun _ => ?_)
  · refine s_sub [] rfl ?_
    exact s_ev (fun _ _ q => q)
  · refine s_aload_n (pc := 11) 1 dX11_areChangesOnce_11 rfl ?_
    refine s_iload (pc := 12) 4 dX11_areChangesOnce_12 rfl ?_
    refine x_callV (M := MX11_areChangesOnce) (L := [(11, b0, f0, s0), (7, (b0 + 8), f1, s1), (0, b2, f2, s2), (9, b3, f3, s3)]) (h := h) (j := 3) (As := [.int v4]) (st := []) (A := fun (x : Int64) => some (.long x)) (Lc := [(9, b3, f3, s3)]) (Lr := fun (x : Int64) => [(9, b3, f3, s3)]) (L2 := fun (x : Int64) => [(11, b0, f0, s0), (7, (b0 + 8), f1, s1), (0, b2, f2, s2), (9, b3, f3, s3)]) cv_X11_117 (by decide) (pc := 14) dX11_areChangesOnce_14 ho rfl xc0_9 rfl rfl (Nat.le_of_ble_eq_true rfl) (xovs (L := [(11, b0, f0, s0), (7, (b0 + 8), f1, s1), (0, b2, f2, s2), (9, b3, f3, s3)]) (h := h) [(3, (9, b3, f3, s3))] ho ⟨rfl, trivial⟩).1 (fun x => (xovs (L := [(11, b0, f0, s0), (7, (b0 + 8), f1, s1), (0, b2, f2, s2), (9, b3, f3, s3)]) (h := h) [(3, (9, b3, f3, s3))] ho ⟨rfl, trivial⟩).1) (fun x hx => pX9_get_ok (h := xw [(11, b0, f0, s0), (7, (b0 + 8), f1, s1), (0, b2, f2, s2), (9, b3, f3, s3)] h) (f0 := f3) (xok_sub ho [3] rfl (by decide)) s3 v4 x hx) rfl (fun x1 _ => ?_)
    refine s_lstore (lv' := [(5, .long x1), (0, .ref b0), (1, .ref b3), (2, .int v2), (3, .int v3), (4, .int v4)]) (pc := 17) dX11_areChangesOnce_17 (by decide) rfl ?_
    refine s_lload (pc := 19) 0 dX11_areChangesOnce_19 rfl ?_
    refine s_lconst (v := 0) (pc := 21) dX11_areChangesOnce_21 (by decide) ?_
    refine s_lcmp (pc := 22) dX11_areChangesOnce_22 ?_
    refine s_ifL (lg_cmp_lt _ _) (s_if_lt (tgt := 53) (pc := 23) dX11_areChangesOnce_23 (by decide) (fun _ => ?_) (fun _ => ?_))
    · refine s_sub [] rfl ?_
      exact s_ev (fun _ _ q => q)
    · refine s_lload (pc := 26) 0 dX11_areChangesOnce_26 rfl ?_
      refine s_aload_n (pc := 28) 1 dX11_areChangesOnce_28 rfl ?_
      refine xg_X11_25 0 ho rfl (pc := 29) dX11_areChangesOnce_29 rfl ?_
      refine xg_X11_174 1 ho rfl (pc := 32) dX11_areChangesOnce_32 rfl hq_1_0 ?_
      refine xg_X11_164 2 ho rfl (pc := 35) dX11_areChangesOnce_35 rfl ?_
      refine s_i2l (pc := 38) dX11_areChangesOnce_38 ?_
      refine s_lcmp (pc := 39) dX11_areChangesOnce_39 ?_
      refine s_ifL (lg_cmp_ge _ _) (s_if_ge (tgt := 53) (pc := 40) dX11_areChangesOnce_40 (by decide) (fun _ => ?_) (fun _ => ?_))
      · refine s_sub [] rfl ?_
        exact s_ev (fun _ _ q => q)
      · refine s_iload_n (pc := 43) 4 dX11_areChangesOnce_43 rfl ?_
        refine s_lload (pc := 44) 0 dX11_areChangesOnce_44 rfl ?_
        refine s_l2i (pc := 46) dX11_areChangesOnce_46 ?_
        refine s_callS (M := MX11_areChangesOnce) (As := [.int v3, .int x1.toInt32]) (st := []) (Ψ := fun (x : Bool) => (some (.int (b2i x)), xw [(11, b0, f0, s0), (7, (b0 + 8), f1, s1), (0, b2, f2, s2), (9, b3, f3, s3)] h)) cs_X11_305 (by decide) (pc := 47) dX11_areChangesOnce_47 rfl (Nat.le_of_ble_eq_true rfl) (fun x hx => pX0_isIn_ok v3 x1.toInt32 x hx) rfl (fun x2 _ => ?_)
        refine s_if_eqB (tgt := 55) (pc := 50) dX11_areChangesOnce_50 (by decide) (fun _ => ?_) (fun _ => ?_)
        · refine s_sub [] rfl ?_
          exact s_ev (fun _ _ q => q)
        · refine s_iload_n (pc := 55) 4 dX11_areChangesOnce_55 rfl ?_
          refine s_iconst (v := 1) (pc := 56) dX11_areChangesOnce_56 (by decide) ?_
          refine s_lload (pc := 57) 0 dX11_areChangesOnce_57 rfl ?_
          refine s_l2i (pc := 59) dX11_areChangesOnce_59 ?_
          refine s_ishl (pc := 60) dX11_areChangesOnce_60 ?_
          refine s_ior (pc := 61) dX11_areChangesOnce_61 ?_
          refine s_istore_nT (lv' := fun x3 => [(3, .int x3), (5, .long x1), (0, .ref b0), (1, .ref b3), (2, .int v2), (4, .int v4)]) (pc := 62) dX11_areChangesOnce_62 (by decide) (fun _ => rfl) (fun x3 => ?_)
          refine s_iincT (pc := 63) 5 (lv' := fun x4 => [(4, .int x4), (3, .int x3), (5, .long x1), (0, .ref b0), (1, .ref b3), (2, .int v2)]) dX11_areChangesOnce_63 rfl rfl (by decide) (fun _ => rfl) (fun x4 => ?_)
          refine s_goto (tgt := 5) (pc := 66) dX11_areChangesOnce_66 (by decide) ?_
          refine s_sub [3, 4, 5, 1, 0] rfl ?_
          exact s_ev (fun _ _ q => q)
def pX11_areChangesOnce (s0 : RS) (s1 : RS) (s2 : RS) (s3 : RS) (a1 : Int32) : Option Bool :=
  (a_loop (fun (q : Int32 × Int32) => X11_areChangesOnce_b5 a1 q.1 q.2 s0 s1 s2 s3) FU ((0 : Int32), (0 : Int32))).bind (Sum.elim (fun (t5 : Unit) =>
      some false)
    (fun (t6 : Unit) =>
      some true))
theorem pX11_areChangesOnce_w (ho : xok [(11, b0), (7, (b0 + 8)), (0, b2), (9, b3)] h.2.1) (hq_1_0 : f1 0 = some b2) (s0 : RS) (s1 : RS) (s2 : RS) (s3 : RS) (a1 : Int32) : aS l 1 MX11_areChangesOnce n0 S0 (oΦ (fun (x : Bool) => ((some (.int (b2i x))), xw [(11, b0, f0, s0), (7, (b0 + 8), f1, s1), (0, b2, f2, s2), (9, b3, f3, s3)] h))) 0 [(0, .ref b0), (1, .ref b3), (2, .int a1)] [] (xw [(11, b0, f0, s0), (7, (b0 + 8), f1, s1), (0, b2, f2, s2), (9, b3, f3, s3)] h) (pX11_areChangesOnce s0 s1 s2 s3 a1) := by
  unfold pX11_areChangesOnce
  refine s_iconst (v := 0) (pc := 0) dX11_areChangesOnce_0 (by decide) ?_
  refine s_istore_n (lv' := [(3, .int 0), (0, .ref b0), (1, .ref b3), (2, .int a1)]) (pc := 1) dX11_areChangesOnce_1 (by decide) rfl ?_
  refine s_iconst (v := 0) (pc := 2) dX11_areChangesOnce_2 (by decide) ?_
  refine s_istore (lv' := [(4, .int 0), (3, .int 0), (0, .ref b0), (1, .ref b3), (2, .int a1)]) (pc := 3) dX11_areChangesOnce_3 (by decide) rfl ?_
  refine s_bind (Ψ := X11_areChangesOnce_x5 l n0 S0 h b0 b2 b3 f0 f1 f2 f3 a1 s0 s1 s2 s3) ?_ ?_
  · refine s_sub [2, 3, 4, 1, 0] rfl ?_
    exact s_loop (lvf := fun (q : Int32 × Int32) => [(0, .ref b0), (1, .ref b3), (2, .int a1), (3, .int q.1), (4, .int q.2)]) (stf := fun _ => []) (hf := fun (q : Int32 × Int32) => xw [(11, b0, f0, s0), (7, (b0 + 8), f1, s1), (0, b2, f2, s2), (9, b3, f3, s3)] h) (fun q => X11_areChangesOnce_b5_ok ho hq_1_0 a1 q.1 q.2 s0 s1 s2 s3) FU ((0 : Int32), (0 : Int32))
  · intro x z r h' hz hr
    rcases x with t5 | t6
    · refine (?_ : aS l 1 MX11_areChangesOnce n0 S0 (oΦ (fun (x : Bool) => ((some (.int (b2i x))), xw [(11, b0, f0, s0), (7, (b0 + 8), f1, s1), (0, b2, f2, s2), (9, b3, f3, s3)] h))) 53 [] [] (xw [(11, b0, f0, s0), (7, (b0 + 8), f1, s1), (0, b2, f2, s2), (9, b3, f3, s3)] h) _) z (show _ = some z from hz) r h' hr
      refine s_iconst (v := 0) (pc := 53) dX11_areChangesOnce_53 (by decide) ?_
      exact s_zretB (b := false) (pc := 54) dX11_areChangesOnce_54 rfl (fun _ _ q => q)
    · refine (?_ : aS l 1 MX11_areChangesOnce n0 S0 (oΦ (fun (x : Bool) => ((some (.int (b2i x))), xw [(11, b0, f0, s0), (7, (b0 + 8), f1, s1), (0, b2, f2, s2), (9, b3, f3, s3)] h))) 69 [] [] (xw [(11, b0, f0, s0), (7, (b0 + 8), f1, s1), (0, b2, f2, s2), (9, b3, f3, s3)] h) _) z (show _ = some z from hz) r h' hr
      refine s_iconst (v := 1) (pc := 69) dX11_areChangesOnce_69 (by decide) ?_
      exact s_zretB (b := true) (pc := 70) dX11_areChangesOnce_70 rfl (fun _ _ q => q)
theorem pX11_areChangesOnce_ok (ho : xok [(11, b0), (7, (b0 + 8)), (0, b2), (9, b3)] h.2.1) (hq_1_0 : f1 0 = some b2) (s0 : RS) (s1 : RS) (s2 : RS) (s3 : RS) (a1 : Int32) : ∀ x, pX11_areChangesOnce s0 s1 s2 s3 a1 = some x → aMet l 1 yX11_areChangesOnce cX11_areChangesOnce 7 (some .boolean) [.ref b0, .ref b3, .int a1] (xw [(11, b0, f0, s0), (7, (b0 + 8), f1, s1), (0, b2, f2, s2), (9, b3, f3, s3)] h) (some (.int (b2i x))) (xw [(11, b0, f0, s0), (7, (b0 + 8), f1, s1), (0, b2, f2, s2), (9, b3, f3, s3)] h) := fun x hx => a_meth (ini := false) (y := yX11_areChangesOnce) (by decide +kernel) (fun q => by cases q) (fun _ => Nat.le_of_ble_eq_true rfl) (pX11_areChangesOnce_w ho hq_1_0 s0 s1 s2 s3 a1) x hx _ _ ⟨rfl, rfl⟩
end
section
variable {l : Launch} {n0 S0 : Nat} {h : aH} {b0 b2 b3 : Nat} {f0 f1 f2 f3 : Nat → Option Nat}
abbrev MX11_holdsInRow : aM := (cX11_holdsInRow, RX11, 6, (some .boolean), false)
def X11_holdsInRow_x5 (l : Launch) (n0 S0 : Nat) (h : aH) (b0 : Nat) (b2 : Nat) (b3 : Nat) (f0 : Nat → Option Nat) (f1 : Nat → Option Nat) (f2 : Nat → Option Nat) (f3 : Nat → Option Nat) (v2 : Int32) (s0 : RS) (s1 : RS) (s2 : RS) (s3 : RS) : (Unit ⊕ Unit) → Option Value → aH → Prop := Sum.elim (fun (x : Unit) (r : Option Value) (h' : aH) => aEv l 1 MX11_holdsInRow n0 S0 55 [] [] (xw [(11, b0, f0, s0), (7, (b0 + 8), f1, s1), (0, b2, f2, s2), (9, b3, f3, s3)] h) r h') (fun (x : Unit) (r : Option Value) (h' : aH) => aEv l 1 MX11_holdsInRow n0 S0 70 [] [] (xw [(11, b0, f0, s0), (7, (b0 + 8), f1, s1), (0, b2, f2, s2), (9, b3, f3, s3)] h) r h')
def X11_holdsInRow_b5 (v2 : Int32) (v3 : Int32) (v4 : Int32) (s0 : RS) (s1 : RS) (s2 : RS) (s3 : RS) : Option ((Int32 × Int32) ⊕ (Unit ⊕ Unit)) :=
  if v2 ≤ v4 then
    some (.inr (.inr ()))
  else
    (pX9_get s3 v4).bind fun x1 =>
    (pX0_isChange s2 x1.toInt32).bind fun x2 =>
    if x2 = true then
      g_in x1.toInt32 16 (
      if ((s2.2.2.1 10 x1.toInt32.toNatClampNeg) &&& (v3 ^^^ (-1 : Int32))) = 0 then
        thn (v3 ||| ((1 : Int32) <<< (x1.toInt32 &&& 31))) fun x3 =>
        thn (v4 + 1) fun x4 =>
        some (.inl (x3, x4))
      else
        some (.inr (.inl ())))
    else
      some (.inr (.inl ()))
theorem X11_holdsInRow_b5_ok (ho : xok [(11, b0), (7, (b0 + 8)), (0, b2), (9, b3)] h.2.1) (hq_1_0 : f1 0 = some b2) (v2 : Int32) (v3 : Int32) (v4 : Int32) (s0 : RS) (s1 : RS) (s2 : RS) (s3 : RS) : aS l 1 MX11_holdsInRow n0 S0 (a_LΦ (X11_holdsInRow_x5 l n0 S0 h b0 b2 b3 f0 f1 f2 f3 v2 s0 s1 s2 s3) l 1 MX11_holdsInRow n0 S0 5 (fun (q : Int32 × Int32) => [(0, .ref b0), (1, .ref b3), (2, .int v2), (3, .int q.1), (4, .int q.2)]) (fun _ => []) (fun (q : Int32 × Int32) => xw [(11, b0, f0, s0), (7, (b0 + 8), f1, s1), (0, b2, f2, s2), (9, b3, f3, s3)] h)) 5 [(0, .ref b0), (1, .ref b3), (2, .int v2), (3, .int v3), (4, .int v4)] [] (xw [(11, b0, f0, s0), (7, (b0 + 8), f1, s1), (0, b2, f2, s2), (9, b3, f3, s3)] h) (X11_holdsInRow_b5 v2 v3 v4 s0 s1 s2 s3) := by
  unfold X11_holdsInRow_b5
  refine s_iload (pc := 5) 4 dX11_holdsInRow_5 rfl ?_
  refine s_iload_n (pc := 7) 2 dX11_holdsInRow_7 rfl ?_
  refine s_icmp_ge (tgt := 70) (pc := 8) dX11_holdsInRow_8 (by decide) (fun _ => ?_) (fun _ => ?_)
  · refine s_sub [] rfl ?_
    exact s_ev (fun _ _ q => q)
  · refine s_aload_n (pc := 11) 1 dX11_holdsInRow_11 rfl ?_
    refine s_iload (pc := 12) 4 dX11_holdsInRow_12 rfl ?_
    refine x_callV (M := MX11_holdsInRow) (L := [(11, b0, f0, s0), (7, (b0 + 8), f1, s1), (0, b2, f2, s2), (9, b3, f3, s3)]) (h := h) (j := 3) (As := [.int v4]) (st := []) (A := fun (x : Int64) => some (.long x)) (Lc := [(9, b3, f3, s3)]) (Lr := fun (x : Int64) => [(9, b3, f3, s3)]) (L2 := fun (x : Int64) => [(11, b0, f0, s0), (7, (b0 + 8), f1, s1), (0, b2, f2, s2), (9, b3, f3, s3)]) cv_X11_117 (by decide) (pc := 14) dX11_holdsInRow_14 ho rfl xc0_9 rfl rfl (Nat.le_of_ble_eq_true rfl) (xovs (L := [(11, b0, f0, s0), (7, (b0 + 8), f1, s1), (0, b2, f2, s2), (9, b3, f3, s3)]) (h := h) [(3, (9, b3, f3, s3))] ho ⟨rfl, trivial⟩).1 (fun x => (xovs (L := [(11, b0, f0, s0), (7, (b0 + 8), f1, s1), (0, b2, f2, s2), (9, b3, f3, s3)]) (h := h) [(3, (9, b3, f3, s3))] ho ⟨rfl, trivial⟩).1) (fun x hx => pX9_get_ok (h := xw [(11, b0, f0, s0), (7, (b0 + 8), f1, s1), (0, b2, f2, s2), (9, b3, f3, s3)] h) (f0 := f3) (xok_sub ho [3] rfl (by decide)) s3 v4 x hx) rfl (fun x1 _ => ?_)
    refine s_l2i (pc := 17) dX11_holdsInRow_17 ?_
    refine s_istore (lv' := [(5, .int x1.toInt32), (0, .ref b0), (1, .ref b3), (2, .int v2), (3, .int v3), (4, .int v4)]) (pc := 18) dX11_holdsInRow_18 (by decide) rfl ?_
    refine s_aload_n (pc := 20) 1 dX11_holdsInRow_20 rfl ?_
    refine xg_X11_25 0 ho rfl (pc := 21) dX11_holdsInRow_21 rfl ?_
    refine xg_X11_174 1 ho rfl (pc := 24) dX11_holdsInRow_24 rfl hq_1_0 ?_
    refine s_iload (pc := 27) 0 dX11_holdsInRow_27 rfl ?_
    refine x_callV (M := MX11_holdsInRow) (L := [(11, b0, f0, s0), (7, (b0 + 8), f1, s1), (0, b2, f2, s2), (9, b3, f3, s3)]) (h := h) (j := 2) (As := [.int x1.toInt32]) (st := []) (A := fun (x : Bool) => some (.int (b2i x))) (Lc := [(0, b2, f2, s2)]) (Lr := fun (x : Bool) => [(0, b2, f2, s2)]) (L2 := fun (x : Bool) => [(11, b0, f0, s0), (7, (b0 + 8), f1, s1), (0, b2, f2, s2), (9, b3, f3, s3)]) cv_X11_212 (by decide) (pc := 29) dX11_holdsInRow_29 ho rfl xc0_0 rfl rfl (Nat.le_of_ble_eq_true rfl) (xovs (L := [(11, b0, f0, s0), (7, (b0 + 8), f1, s1), (0, b2, f2, s2), (9, b3, f3, s3)]) (h := h) [(2, (0, b2, f2, s2))] ho ⟨rfl, trivial⟩).1 (fun x => (xovs (L := [(11, b0, f0, s0), (7, (b0 + 8), f1, s1), (0, b2, f2, s2), (9, b3, f3, s3)]) (h := h) [(2, (0, b2, f2, s2))] ho ⟨rfl, trivial⟩).1) (fun x hx => pX0_isChange_ok (h := xw [(11, b0, f0, s0), (7, (b0 + 8), f1, s1), (0, b2, f2, s2), (9, b3, f3, s3)] h) (f0 := f2) (xok_sub ho [2] rfl (by decide)) s2 x1.toInt32 x hx) rfl (fun x2 _ => ?_)
    refine s_if_eqB (tgt := 55) (pc := 32) dX11_holdsInRow_32 (by decide) (fun _ => ?_) (fun _ => ?_)
    · refine s_aload_n (pc := 35) 1 dX11_holdsInRow_35 rfl ?_
      refine xg_X11_25 0 ho rfl (pc := 36) dX11_holdsInRow_36 rfl ?_
      refine xg_X11_174 1 ho rfl (pc := 39) dX11_holdsInRow_39 rfl hq_1_0 ?_
      refine xg_X11_235 2 ho rfl (pc := 42) dX11_holdsInRow_42 rfl ?_
      refine s_iload (pc := 45) 0 dX11_holdsInRow_45 rfl ?_
      refine xl_0_10 2 ho rfl (pc := 47) dX11_holdsInRow_47 ?_
      refine s_iload_n (pc := 48) 4 dX11_holdsInRow_48 rfl ?_
      refine s_iconst (v := (-1)) (pc := 49) dX11_holdsInRow_49 (by decide) ?_
      refine s_ixor (pc := 50) dX11_holdsInRow_50 ?_
      refine s_iand (pc := 51) dX11_holdsInRow_51 ?_
      refine s_if_eq (tgt := 57) (pc := 52) dX11_holdsInRow_52 (by decide) (fun _ => ?_) (fun _ => ?_)
      · refine s_iload_n (pc := 57) 4 dX11_holdsInRow_57 rfl ?_
        refine s_iconst (v := 1) (pc := 58) dX11_holdsInRow_58 (by decide) ?_
        refine s_iload (pc := 59) 0 dX11_holdsInRow_59 rfl ?_
        refine s_ishl (pc := 61) dX11_holdsInRow_61 ?_
        refine s_ior (pc := 62) dX11_holdsInRow_62 ?_
        refine s_istore_nT (lv' := fun x3 => [(3, .int x3), (5, .int x1.toInt32), (0, .ref b0), (1, .ref b3), (2, .int v2), (4, .int v4)]) (pc := 63) dX11_holdsInRow_63 (by decide) (fun _ => rfl) (fun x3 => ?_)
        refine s_iincT (pc := 64) 5 (lv' := fun x4 => [(4, .int x4), (3, .int x3), (5, .int x1.toInt32), (0, .ref b0), (1, .ref b3), (2, .int v2)]) dX11_holdsInRow_64 rfl rfl (by decide) (fun _ => rfl) (fun x4 => ?_)
        refine s_goto (tgt := 5) (pc := 67) dX11_holdsInRow_67 (by decide) ?_
        refine s_sub [3, 4, 5, 1, 0] rfl ?_
        exact s_ev (fun _ _ q => q)
      · refine s_sub [] rfl ?_
        exact s_ev (fun _ _ q => q)
    · refine s_sub [] rfl ?_
      exact s_ev (fun _ _ q => q)
def pX11_holdsInRow (s0 : RS) (s1 : RS) (s2 : RS) (s3 : RS) (a1 : Int32) : Option Bool :=
  (a_loop (fun (q : Int32 × Int32) => X11_holdsInRow_b5 a1 q.1 q.2 s0 s1 s2 s3) FU ((0 : Int32), (0 : Int32))).bind (Sum.elim (fun (t5 : Unit) =>
      some false)
    (fun (t6 : Unit) =>
      some true))
theorem pX11_holdsInRow_w (ho : xok [(11, b0), (7, (b0 + 8)), (0, b2), (9, b3)] h.2.1) (hq_1_0 : f1 0 = some b2) (s0 : RS) (s1 : RS) (s2 : RS) (s3 : RS) (a1 : Int32) : aS l 1 MX11_holdsInRow n0 S0 (oΦ (fun (x : Bool) => ((some (.int (b2i x))), xw [(11, b0, f0, s0), (7, (b0 + 8), f1, s1), (0, b2, f2, s2), (9, b3, f3, s3)] h))) 0 [(0, .ref b0), (1, .ref b3), (2, .int a1)] [] (xw [(11, b0, f0, s0), (7, (b0 + 8), f1, s1), (0, b2, f2, s2), (9, b3, f3, s3)] h) (pX11_holdsInRow s0 s1 s2 s3 a1) := by
  unfold pX11_holdsInRow
  refine s_iconst (v := 0) (pc := 0) dX11_holdsInRow_0 (by decide) ?_
  refine s_istore_n (lv' := [(3, .int 0), (0, .ref b0), (1, .ref b3), (2, .int a1)]) (pc := 1) dX11_holdsInRow_1 (by decide) rfl ?_
  refine s_iconst (v := 0) (pc := 2) dX11_holdsInRow_2 (by decide) ?_
  refine s_istore (lv' := [(4, .int 0), (3, .int 0), (0, .ref b0), (1, .ref b3), (2, .int a1)]) (pc := 3) dX11_holdsInRow_3 (by decide) rfl ?_
  refine s_bind (Ψ := X11_holdsInRow_x5 l n0 S0 h b0 b2 b3 f0 f1 f2 f3 a1 s0 s1 s2 s3) ?_ ?_
  · refine s_sub [2, 3, 4, 1, 0] rfl ?_
    exact s_loop (lvf := fun (q : Int32 × Int32) => [(0, .ref b0), (1, .ref b3), (2, .int a1), (3, .int q.1), (4, .int q.2)]) (stf := fun _ => []) (hf := fun (q : Int32 × Int32) => xw [(11, b0, f0, s0), (7, (b0 + 8), f1, s1), (0, b2, f2, s2), (9, b3, f3, s3)] h) (fun q => X11_holdsInRow_b5_ok ho hq_1_0 a1 q.1 q.2 s0 s1 s2 s3) FU ((0 : Int32), (0 : Int32))
  · intro x z r h' hz hr
    rcases x with t5 | t6
    · refine (?_ : aS l 1 MX11_holdsInRow n0 S0 (oΦ (fun (x : Bool) => ((some (.int (b2i x))), xw [(11, b0, f0, s0), (7, (b0 + 8), f1, s1), (0, b2, f2, s2), (9, b3, f3, s3)] h))) 55 [] [] (xw [(11, b0, f0, s0), (7, (b0 + 8), f1, s1), (0, b2, f2, s2), (9, b3, f3, s3)] h) _) z (show _ = some z from hz) r h' hr
      refine s_iconst (v := 0) (pc := 55) dX11_holdsInRow_55 (by decide) ?_
      exact s_zretB (b := false) (pc := 56) dX11_holdsInRow_56 rfl (fun _ _ q => q)
    · refine (?_ : aS l 1 MX11_holdsInRow n0 S0 (oΦ (fun (x : Bool) => ((some (.int (b2i x))), xw [(11, b0, f0, s0), (7, (b0 + 8), f1, s1), (0, b2, f2, s2), (9, b3, f3, s3)] h))) 70 [] [] (xw [(11, b0, f0, s0), (7, (b0 + 8), f1, s1), (0, b2, f2, s2), (9, b3, f3, s3)] h) _) z (show _ = some z from hz) r h' hr
      refine s_iconst (v := 1) (pc := 70) dX11_holdsInRow_70 (by decide) ?_
      exact s_zretB (b := true) (pc := 71) dX11_holdsInRow_71 rfl (fun _ _ q => q)
theorem pX11_holdsInRow_ok (ho : xok [(11, b0), (7, (b0 + 8)), (0, b2), (9, b3)] h.2.1) (hq_1_0 : f1 0 = some b2) (s0 : RS) (s1 : RS) (s2 : RS) (s3 : RS) (a1 : Int32) : ∀ x, pX11_holdsInRow s0 s1 s2 s3 a1 = some x → aMet l 1 yX11_holdsInRow cX11_holdsInRow 6 (some .boolean) [.ref b0, .ref b3, .int a1] (xw [(11, b0, f0, s0), (7, (b0 + 8), f1, s1), (0, b2, f2, s2), (9, b3, f3, s3)] h) (some (.int (b2i x))) (xw [(11, b0, f0, s0), (7, (b0 + 8), f1, s1), (0, b2, f2, s2), (9, b3, f3, s3)] h) := fun x hx => a_meth (ini := false) (y := yX11_holdsInRow) (by decide +kernel) (fun q => by cases q) (fun _ => Nat.le_of_ble_eq_true rfl) (pX11_holdsInRow_w ho hq_1_0 s0 s1 s2 s3 a1) x hx _ _ ⟨rfl, rfl⟩
end
section
variable {l : Launch} {n0 S0 : Nat} {h : aH} {b0 b2 b3 : Nat} {f0 f1 f2 f3 : Nat → Option Nat} {a0 : Int32}
abbrev MX11_order : aM := (cX11_order, RX11, 4, (some .boolean), false)
def X11_order_j41 (s0 : RS) (s1 : RS) (s2 : RS) (s3 : RS) : Option (Bool × RS × RS) :=
  (pX11_deny s0 (5 : Int32)).bind fun x3 =>
  some (x3.1, x3.2, s1)
theorem X11_order_j41_ok (ho : xok [(11, b0), (7, (b0 + 8)), (0, b2), (9, b3)] h.2.1) (hq_1_0 : f1 0 = some b2) (ht_a0 : vp_in a0 4 → b0 + 79 + 2 * a0.toNatClampNeg = b3) (s0 : RS) (s1 : RS) (s2 : RS) (s3 : RS) : aS l 2 MX11_order n0 S0 (oΦ (fun (x : Bool × RS × RS) => ((some (.int (b2i x.1))), xw [(11, b0, f0, x.2.1), (7, (b0 + 8), f1, x.2.2), (0, b2, f2, s2), (9, b3, f3, s3)] h))) 41 [(0, .ref b0)] [] (xw [(11, b0, f0, s0), (7, (b0 + 8), f1, s1), (0, b2, f2, s2), (9, b3, f3, s3)] h) (X11_order_j41 s0 s1 s2 s3) := by
  unfold X11_order_j41
  refine s_aload_n (pc := 41) 0 dX11_order_41 rfl ?_
  refine s_iconst (v := 5) (pc := 42) dX11_order_42 (by decide) ?_
  refine x_callV (M := MX11_order) (L := [(11, b0, f0, s0), (7, (b0 + 8), f1, s1), (0, b2, f2, s2), (9, b3, f3, s3)]) (h := h) (j := 0) (As := [.int 5]) (st := []) (A := fun (x : Bool × RS) => some (.int (b2i x.1))) (Lc := [(11, b0, f0, s0)]) (Lr := fun (x : Bool × RS) => [(11, b0, f0, x.2)]) (L2 := fun (x : Bool × RS) => [(11, b0, f0, x.2), (7, (b0 + 8), f1, s1), (0, b2, f2, s2), (9, b3, f3, s3)]) cv_X11_95 (by decide) (pc := 43) dX11_order_43 ho rfl xc0_11 rfl rfl (Nat.le_of_ble_eq_true rfl) (xovs (L := [(11, b0, f0, s0), (7, (b0 + 8), f1, s1), (0, b2, f2, s2), (9, b3, f3, s3)]) (h := h) [(0, (11, b0, f0, s0))] ho ⟨rfl, trivial⟩).1 (fun x => (xovs (L := [(11, b0, f0, s0), (7, (b0 + 8), f1, s1), (0, b2, f2, s2), (9, b3, f3, s3)]) (h := h) [(0, (11, b0, f0, x.2))] ho ⟨rfl, trivial⟩).1) (fun x hx => pX11_deny_ok (h := xw [(11, b0, f0, s0), (7, (b0 + 8), f1, s1), (0, b2, f2, s2), (9, b3, f3, s3)] h) (f0 := f0) (xok_sub ho [0] rfl (by decide)) s0 (5 : Int32) x hx) rfl (fun x3 _ => ?_)
  exact s_zretB (b := x3.1) (pc := 46) dX11_order_46 rfl (fun _ _ q => q)
def X11_order_x110 (l : Launch) (n0 S0 : Nat) (h : aH) (b0 : Nat) (b2 : Nat) (b3 : Nat) (f0 : Nat → Option Nat) (f1 : Nat → Option Nat) (f2 : Nat → Option Nat) (f3 : Nat → Option Nat) (a0 : Int32) (v2 : Int32) (s0 : RS) (s2 : RS) (s3 : RS) : RS → Option Value → aH → Prop := fun (x : RS) r h' => aEv l 2 MX11_order n0 S0 141 [(0, .ref b0), (2, .int v2)] [] (xw [(11, b0, f0, s0), (7, (b0 + 8), f1, x), (0, b2, f2, s2), (9, b3, f3, s3)] h) r h'
def X11_order_b110 (a0 : Int32) (v2 : Int32) (v3 : Int32) (s0 : RS) (s1 : RS) (s2 : RS) (s3 : RS) : Option ((Int32 × RS) ⊕ RS) :=
  if v2 ≤ v3 then
    some (.inr s1)
  else
    g_in a0 4 (
    (pX9_get s3 v3).bind fun x7 =>
    g_in v3 16 (thn (uA s1 3 (upd (s1.2.2.1 3) v3.toNatClampNeg x7.toInt32)) fun s_8 =>
    thn (v3 + 1) fun x9 =>
    some (.inl (x9, s_8))))
theorem X11_order_b110_ok (ho : xok [(11, b0), (7, (b0 + 8)), (0, b2), (9, b3)] h.2.1) (hq_1_0 : f1 0 = some b2) (ht_a0 : vp_in a0 4 → b0 + 79 + 2 * a0.toNatClampNeg = b3) (v2 : Int32) (v3 : Int32) (s0 : RS) (s1 : RS) (s2 : RS) (s3 : RS) : aS l 2 MX11_order n0 S0 (a_LΦ (X11_order_x110 l n0 S0 h b0 b2 b3 f0 f1 f2 f3 a0 v2 s0 s2 s3) l 2 MX11_order n0 S0 110 (fun (q : Int32 × RS) => [(0, .ref b0), (1, .int a0), (2, .int v2), (3, .int q.1)]) (fun _ => []) (fun (q : Int32 × RS) => xw [(11, b0, f0, s0), (7, (b0 + 8), f1, q.2), (0, b2, f2, s2), (9, b3, f3, s3)] h)) 110 [(0, .ref b0), (1, .int a0), (2, .int v2), (3, .int v3)] [] (xw [(11, b0, f0, s0), (7, (b0 + 8), f1, s1), (0, b2, f2, s2), (9, b3, f3, s3)] h) (X11_order_b110 a0 v2 v3 s0 s1 s2 s3) := by
  unfold X11_order_b110
  refine s_iload_n (pc := 110) 3 dX11_order_110 rfl ?_
  refine s_iload_n (pc := 111) 2 dX11_order_111 rfl ?_
  refine s_icmp_ge (tgt := 141) (pc := 112) dX11_order_112 (by decide) (fun _ => ?_) (fun _ => ?_)
  · refine s_sub [0, 2] rfl ?_
    exact s_ev (fun _ _ q => q)
  · refine s_aload_n (pc := 115) 0 dX11_order_115 rfl ?_
    refine xg_X11_25 0 ho rfl (pc := 116) dX11_order_116 rfl ?_
    refine xg_X11_337 1 ho rfl (pc := 119) dX11_order_119 rfl ?_
    refine s_iload_n (pc := 122) 3 dX11_order_122 rfl ?_
    refine s_aload_n (pc := 123) 0 dX11_order_123 rfl ?_
    refine xg_X11_11 0 ho rfl (pc := 124) dX11_order_124 rfl ?_
    refine s_iload_n (pc := 127) 1 dX11_order_127 rfl ?_
    refine x_trays 0 ho rfl ht_a0 (pc := 128) dX11_order_128 ?_
    refine s_iload_n (pc := 129) 3 dX11_order_129 rfl ?_
    refine x_callV (M := MX11_order) (L := [(11, b0, f0, s0), (7, (b0 + 8), f1, s1), (0, b2, f2, s2), (9, b3, f3, s3)]) (h := h) (j := 3) (As := [.int v3]) (st := [.int v3, .ref ((b0 + 8) + 16)]) (A := fun (x : Int64) => some (.long x)) (Lc := [(9, b3, f3, s3)]) (Lr := fun (x : Int64) => [(9, b3, f3, s3)]) (L2 := fun (x : Int64) => [(11, b0, f0, s0), (7, (b0 + 8), f1, s1), (0, b2, f2, s2), (9, b3, f3, s3)]) cv_X11_117 (by decide) (pc := 130) dX11_order_130 ho rfl xc0_9 rfl rfl (Nat.le_of_ble_eq_true rfl) (xovs (L := [(11, b0, f0, s0), (7, (b0 + 8), f1, s1), (0, b2, f2, s2), (9, b3, f3, s3)]) (h := h) [(3, (9, b3, f3, s3))] ho ⟨rfl, trivial⟩).1 (fun x => (xovs (L := [(11, b0, f0, s0), (7, (b0 + 8), f1, s1), (0, b2, f2, s2), (9, b3, f3, s3)]) (h := h) [(3, (9, b3, f3, s3))] ho ⟨rfl, trivial⟩).1) (fun x hx => pX9_get_ok (h := xw [(11, b0, f0, s0), (7, (b0 + 8), f1, s1), (0, b2, f2, s2), (9, b3, f3, s3)] h) (f0 := f3) (xok_sub ho [3] rfl (by decide)) s3 v3 x hx) rfl (fun x7 _ => ?_)
    refine s_l2i (pc := 133) dX11_order_133 ?_
    refine xs_7_3 (L' := fun s_8 => [(11, b0, f0, s0), (7, (b0 + 8), f1, s_8), (0, b2, f2, s2), (9, b3, f3, s3)]) 1 ho rfl (fun _ => rfl) (pc := 134) dX11_order_134 (fun s_8 => ?_)
    refine s_iincT (pc := 135) 3 (lv' := fun x9 => [(3, .int x9), (0, .ref b0), (1, .int a0), (2, .int v2)]) dX11_order_135 rfl rfl (by decide) (fun _ => rfl) (fun x9 => ?_)
    refine s_goto (tgt := 110) (pc := 138) dX11_order_138 (by decide) ?_
    refine s_sub [1, 2, 3, 0] rfl ?_
    exact s_ev (fun _ _ q => q)
def pX11_order (s0 : RS) (s1 : RS) (s2 : RS) (s3 : RS) (a0 : Int32) (a1 : Int32) : Option (Bool × RS × RS) :=
  (pX11_isTray a0).bind fun x1 =>
  if x1 = true then
    g_in a0 4 (
    (pX9_isMissing s3).bind fun x2 =>
    if x2 = true then
      (pX11_deny s0 (3 : Int32)).bind fun x16 =>
      some (x16.1, x16.2, s1)
    else
      if a1 < 0 then
        X11_order_j41 s0 s1 s2 s3
      else
        if a1 ≤ (16 : Int32) then
          g_in a0 4 (
          (pX9_spans s3 (0 : Int32) a1).bind fun x4 =>
          if x4 = true then
            g_in a0 4 (
            (pX11_areChangesOnce s0 s1 s2 s3 a1).bind fun x5 =>
            if x5 = true then
              g_in a0 4 (
              (pX11_holdsInRow s0 s1 s2 s3 a1).bind fun x6 =>
              if x6 = true then
                (a_loop (fun (q : Int32 × RS) => X11_order_b110 a0 a1 q.1 s0 q.2 s2 s3) FU ((0 : Int32), s1)).bind fun (t10 : RS) =>
                  thn (uI t10 4 a1) fun s_11 =>
                  (pX11_grant s0).bind fun x12 =>
                  some (x12.1, x12.2, s_11)
              else
                (pX11_deny s0 (9 : Int32)).bind fun x13 =>
                some (x13.1, x13.2, s1))
            else
              (pX11_deny s0 (5 : Int32)).bind fun x14 =>
              some (x14.1, x14.2, s1))
          else
            (pX11_deny s0 (4 : Int32)).bind fun x15 =>
            some (x15.1, x15.2, s1))
        else
          X11_order_j41 s0 s1 s2 s3)
  else
    (pX11_deny s0 (1 : Int32)).bind fun x17 =>
    some (x17.1, x17.2, s1)
theorem pX11_order_w (ho : xok [(11, b0), (7, (b0 + 8)), (0, b2), (9, b3)] h.2.1) (hq_1_0 : f1 0 = some b2) (ht_a0 : vp_in a0 4 → b0 + 79 + 2 * a0.toNatClampNeg = b3) (s0 : RS) (s1 : RS) (s2 : RS) (s3 : RS) (a1 : Int32) : aS l 2 MX11_order n0 S0 (oΦ (fun (x : Bool × RS × RS) => ((some (.int (b2i x.1))), xw [(11, b0, f0, x.2.1), (7, (b0 + 8), f1, x.2.2), (0, b2, f2, s2), (9, b3, f3, s3)] h))) 0 [(0, .ref b0), (1, .int a0), (2, .int a1)] [] (xw [(11, b0, f0, s0), (7, (b0 + 8), f1, s1), (0, b2, f2, s2), (9, b3, f3, s3)] h) (pX11_order s0 s1 s2 s3 a0 a1) := by
  unfold pX11_order
  refine s_iload_n (pc := 0) 1 dX11_order_0 rfl ?_
  refine s_callS (M := MX11_order) (As := [.int a0]) (st := []) (Ψ := fun (x : Bool) => (some (.int (b2i x)), xw [(11, b0, f0, s0), (7, (b0 + 8), f1, s1), (0, b2, f2, s2), (9, b3, f3, s3)] h)) cs_X11_80 (by decide) (pc := 1) dX11_order_1 rfl (Nat.le_of_ble_eq_true rfl) (fun x hx => pX11_isTray_ok a0 x hx) rfl (fun x1 _ => ?_)
  refine s_if_neB (tgt := 13) (pc := 4) dX11_order_4 (by decide) (fun _ => ?_) (fun _ => ?_)
  · refine s_aload_n (pc := 13) 0 dX11_order_13 rfl ?_
    refine xg_X11_11 0 ho rfl (pc := 14) dX11_order_14 rfl ?_
    refine s_iload_n (pc := 17) 1 dX11_order_17 rfl ?_
    refine x_trays 0 ho rfl ht_a0 (pc := 18) dX11_order_18 ?_
    refine x_callV (M := MX11_order) (L := [(11, b0, f0, s0), (7, (b0 + 8), f1, s1), (0, b2, f2, s2), (9, b3, f3, s3)]) (h := h) (j := 3) (As := []) (st := []) (A := fun (x : Bool) => some (.int (b2i x))) (Lc := [(9, b3, f3, s3)]) (Lr := fun (x : Bool) => [(9, b3, f3, s3)]) (L2 := fun (x : Bool) => [(11, b0, f0, s0), (7, (b0 + 8), f1, s1), (0, b2, f2, s2), (9, b3, f3, s3)]) cv_X11_84 (by decide) (pc := 19) dX11_order_19 ho rfl xc0_9 rfl rfl (Nat.le_of_ble_eq_true rfl) (xovs (L := [(11, b0, f0, s0), (7, (b0 + 8), f1, s1), (0, b2, f2, s2), (9, b3, f3, s3)]) (h := h) [(3, (9, b3, f3, s3))] ho ⟨rfl, trivial⟩).1 (fun x => (xovs (L := [(11, b0, f0, s0), (7, (b0 + 8), f1, s1), (0, b2, f2, s2), (9, b3, f3, s3)]) (h := h) [(3, (9, b3, f3, s3))] ho ⟨rfl, trivial⟩).1) (fun x hx => pX9_isMissing_ok (h := xw [(11, b0, f0, s0), (7, (b0 + 8), f1, s1), (0, b2, f2, s2), (9, b3, f3, s3)] h) (f0 := f3) (xok_sub ho [3] rfl (by decide)) s3 x hx) rfl (fun x2 _ => ?_)
    refine s_if_eqB (tgt := 31) (pc := 22) dX11_order_22 (by decide) (fun _ => ?_) (fun _ => ?_)
    · refine s_aload_n (pc := 25) 0 dX11_order_25 rfl ?_
      refine s_iconst (v := 3) (pc := 26) dX11_order_26 (by decide) ?_
      refine x_callV (M := MX11_order) (L := [(11, b0, f0, s0), (7, (b0 + 8), f1, s1), (0, b2, f2, s2), (9, b3, f3, s3)]) (h := h) (j := 0) (As := [.int 3]) (st := []) (A := fun (x : Bool × RS) => some (.int (b2i x.1))) (Lc := [(11, b0, f0, s0)]) (Lr := fun (x : Bool × RS) => [(11, b0, f0, x.2)]) (L2 := fun (x : Bool × RS) => [(11, b0, f0, x.2), (7, (b0 + 8), f1, s1), (0, b2, f2, s2), (9, b3, f3, s3)]) cv_X11_95 (by decide) (pc := 27) dX11_order_27 ho rfl xc0_11 rfl rfl (Nat.le_of_ble_eq_true rfl) (xovs (L := [(11, b0, f0, s0), (7, (b0 + 8), f1, s1), (0, b2, f2, s2), (9, b3, f3, s3)]) (h := h) [(0, (11, b0, f0, s0))] ho ⟨rfl, trivial⟩).1 (fun x => (xovs (L := [(11, b0, f0, s0), (7, (b0 + 8), f1, s1), (0, b2, f2, s2), (9, b3, f3, s3)]) (h := h) [(0, (11, b0, f0, x.2))] ho ⟨rfl, trivial⟩).1) (fun x hx => pX11_deny_ok (h := xw [(11, b0, f0, s0), (7, (b0 + 8), f1, s1), (0, b2, f2, s2), (9, b3, f3, s3)] h) (f0 := f0) (xok_sub ho [0] rfl (by decide)) s0 (3 : Int32) x hx) rfl (fun x16 _ => ?_)
      exact s_zretB (b := x16.1) (pc := 30) dX11_order_30 rfl (fun _ _ q => q)
    · refine s_iload_n (pc := 31) 2 dX11_order_31 rfl ?_
      refine s_if_lt (tgt := 41) (pc := 32) dX11_order_32 (by decide) (fun _ => ?_) (fun _ => ?_)
      · refine s_sub [0] rfl ?_
        exact X11_order_j41_ok ho hq_1_0 ht_a0 s0 s1 s2 s3
      · refine s_iload_n (pc := 35) 2 dX11_order_35 rfl ?_
        refine s_bipush (v := 16) (pc := 36) dX11_order_36 (by decide) ?_
        refine s_icmp_le (tgt := 47) (pc := 38) dX11_order_38 (by decide) (fun _ => ?_) (fun _ => ?_)
        · refine s_aload_n (pc := 47) 0 dX11_order_47 rfl ?_
          refine xg_X11_11 0 ho rfl (pc := 48) dX11_order_48 rfl ?_
          refine s_iload_n (pc := 51) 1 dX11_order_51 rfl ?_
          refine x_trays 0 ho rfl ht_a0 (pc := 52) dX11_order_52 ?_
          refine s_iconst (v := 0) (pc := 53) dX11_order_53 (by decide) ?_
          refine s_iload_n (pc := 54) 2 dX11_order_54 rfl ?_
          refine x_callV (M := MX11_order) (L := [(11, b0, f0, s0), (7, (b0 + 8), f1, s1), (0, b2, f2, s2), (9, b3, f3, s3)]) (h := h) (j := 3) (As := [.int 0, .int a1]) (st := []) (A := fun (x : Bool) => some (.int (b2i x))) (Lc := [(9, b3, f3, s3)]) (Lr := fun (x : Bool) => [(9, b3, f3, s3)]) (L2 := fun (x : Bool) => [(11, b0, f0, s0), (7, (b0 + 8), f1, s1), (0, b2, f2, s2), (9, b3, f3, s3)]) cv_X11_88 (by decide) (pc := 55) dX11_order_55 ho rfl xc0_9 rfl rfl (Nat.le_of_ble_eq_true rfl) (xovs (L := [(11, b0, f0, s0), (7, (b0 + 8), f1, s1), (0, b2, f2, s2), (9, b3, f3, s3)]) (h := h) [(3, (9, b3, f3, s3))] ho ⟨rfl, trivial⟩).1 (fun x => (xovs (L := [(11, b0, f0, s0), (7, (b0 + 8), f1, s1), (0, b2, f2, s2), (9, b3, f3, s3)]) (h := h) [(3, (9, b3, f3, s3))] ho ⟨rfl, trivial⟩).1) (fun x hx => pX9_spans_ok (h := xw [(11, b0, f0, s0), (7, (b0 + 8), f1, s1), (0, b2, f2, s2), (9, b3, f3, s3)] h) (f0 := f3) (xok_sub ho [3] rfl (by decide)) s3 (0 : Int32) a1 x hx) rfl (fun x4 _ => ?_)
          refine s_if_neB (tgt := 67) (pc := 58) dX11_order_58 (by decide) (fun _ => ?_) (fun _ => ?_)
          · refine s_aload_n (pc := 67) 0 dX11_order_67 rfl ?_
            refine s_aload_n (pc := 68) 0 dX11_order_68 rfl ?_
            refine xg_X11_11 0 ho rfl (pc := 69) dX11_order_69 rfl ?_
            refine s_iload_n (pc := 72) 1 dX11_order_72 rfl ?_
            refine x_trays 0 ho rfl ht_a0 (pc := 73) dX11_order_73 ?_
            refine s_iload_n (pc := 74) 2 dX11_order_74 rfl ?_
            refine x_callV (M := MX11_order) (L := [(11, b0, f0, s0), (7, (b0 + 8), f1, s1), (0, b2, f2, s2), (9, b3, f3, s3)]) (h := h) (j := 0) (As := [.ref b3, .int a1]) (st := []) (A := fun (x : Bool) => some (.int (b2i x))) (Lc := [(11, b0, f0, s0), (7, (b0 + 8), f1, s1), (0, b2, f2, s2), (9, b3, f3, s3)]) (Lr := fun (x : Bool) => [(11, b0, f0, s0), (7, (b0 + 8), f1, s1), (0, b2, f2, s2), (9, b3, f3, s3)]) (L2 := fun (x : Bool) => [(11, b0, f0, s0), (7, (b0 + 8), f1, s1), (0, b2, f2, s2), (9, b3, f3, s3)]) cv_X11_347 (by decide) (pc := 75) dX11_order_75 ho rfl xc0_11 rfl rfl (Nat.le_of_ble_eq_true rfl) (xovs (L := [(11, b0, f0, s0), (7, (b0 + 8), f1, s1), (0, b2, f2, s2), (9, b3, f3, s3)]) (h := h) [(0, (11, b0, f0, s0)), (1, (7, (b0 + 8), f1, s1)), (2, (0, b2, f2, s2)), (3, (9, b3, f3, s3))] ho ⟨rfl, rfl, rfl, rfl, trivial⟩).1 (fun x => (xovs (L := [(11, b0, f0, s0), (7, (b0 + 8), f1, s1), (0, b2, f2, s2), (9, b3, f3, s3)]) (h := h) [(0, (11, b0, f0, s0)), (1, (7, (b0 + 8), f1, s1)), (2, (0, b2, f2, s2)), (3, (9, b3, f3, s3))] ho ⟨rfl, rfl, rfl, rfl, trivial⟩).1) (fun x hx => pX11_areChangesOnce_ok (h := xw [(11, b0, f0, s0), (7, (b0 + 8), f1, s1), (0, b2, f2, s2), (9, b3, f3, s3)] h) (f0 := f0) (f1 := f1) (f2 := f2) (f3 := f3) (xok_sub ho [0, 1, 2, 3] rfl (by decide)) hq_1_0 s0 s1 s2 s3 a1 x hx) rfl (fun x5 _ => ?_)
            refine s_if_neB (tgt := 87) (pc := 78) dX11_order_78 (by decide) (fun _ => ?_) (fun _ => ?_)
            · refine s_aload_n (pc := 87) 0 dX11_order_87 rfl ?_
              refine s_aload_n (pc := 88) 0 dX11_order_88 rfl ?_
              refine xg_X11_11 0 ho rfl (pc := 89) dX11_order_89 rfl ?_
              refine s_iload_n (pc := 92) 1 dX11_order_92 rfl ?_
              refine x_trays 0 ho rfl ht_a0 (pc := 93) dX11_order_93 ?_
              refine s_iload_n (pc := 94) 2 dX11_order_94 rfl ?_
              refine x_callV (M := MX11_order) (L := [(11, b0, f0, s0), (7, (b0 + 8), f1, s1), (0, b2, f2, s2), (9, b3, f3, s3)]) (h := h) (j := 0) (As := [.ref b3, .int a1]) (st := []) (A := fun (x : Bool) => some (.int (b2i x))) (Lc := [(11, b0, f0, s0), (7, (b0 + 8), f1, s1), (0, b2, f2, s2), (9, b3, f3, s3)]) (Lr := fun (x : Bool) => [(11, b0, f0, s0), (7, (b0 + 8), f1, s1), (0, b2, f2, s2), (9, b3, f3, s3)]) (L2 := fun (x : Bool) => [(11, b0, f0, s0), (7, (b0 + 8), f1, s1), (0, b2, f2, s2), (9, b3, f3, s3)]) cv_X11_351 (by decide) (pc := 95) dX11_order_95 ho rfl xc0_11 rfl rfl (Nat.le_of_ble_eq_true rfl) (xovs (L := [(11, b0, f0, s0), (7, (b0 + 8), f1, s1), (0, b2, f2, s2), (9, b3, f3, s3)]) (h := h) [(0, (11, b0, f0, s0)), (1, (7, (b0 + 8), f1, s1)), (2, (0, b2, f2, s2)), (3, (9, b3, f3, s3))] ho ⟨rfl, rfl, rfl, rfl, trivial⟩).1 (fun x => (xovs (L := [(11, b0, f0, s0), (7, (b0 + 8), f1, s1), (0, b2, f2, s2), (9, b3, f3, s3)]) (h := h) [(0, (11, b0, f0, s0)), (1, (7, (b0 + 8), f1, s1)), (2, (0, b2, f2, s2)), (3, (9, b3, f3, s3))] ho ⟨rfl, rfl, rfl, rfl, trivial⟩).1) (fun x hx => pX11_holdsInRow_ok (h := xw [(11, b0, f0, s0), (7, (b0 + 8), f1, s1), (0, b2, f2, s2), (9, b3, f3, s3)] h) (f0 := f0) (f1 := f1) (f2 := f2) (f3 := f3) (xok_sub ho [0, 1, 2, 3] rfl (by decide)) hq_1_0 s0 s1 s2 s3 a1 x hx) rfl (fun x6 _ => ?_)
              refine s_if_neB (tgt := 108) (pc := 98) dX11_order_98 (by decide) (fun _ => ?_) (fun _ => ?_)
              · refine s_iconst (v := 0) (pc := 108) dX11_order_108 (by decide) ?_
                refine s_istore_n (lv' := [(3, .int 0), (0, .ref b0), (1, .int a0), (2, .int a1)]) (pc := 109) dX11_order_109 (by decide) rfl ?_
                refine s_bind (Ψ := X11_order_x110 l n0 S0 h b0 b2 b3 f0 f1 f2 f3 a0 a1 s0 s2 s3) ?_ ?_
                · refine s_sub [1, 2, 3, 0] rfl ?_
                  exact s_loop (lvf := fun (q : Int32 × RS) => [(0, .ref b0), (1, .int a0), (2, .int a1), (3, .int q.1)]) (stf := fun _ => []) (hf := fun (q : Int32 × RS) => xw [(11, b0, f0, s0), (7, (b0 + 8), f1, q.2), (0, b2, f2, s2), (9, b3, f3, s3)] h) (fun q => X11_order_b110_ok ho hq_1_0 ht_a0 a1 q.1 s0 q.2 s2 s3) FU ((0 : Int32), s1)
                · intro t10 z r h' hz hr
                  refine (?_ : aS l 2 MX11_order n0 S0 (oΦ (fun (x : Bool × RS × RS) => ((some (.int (b2i x.1))), xw [(11, b0, f0, x.2.1), (7, (b0 + 8), f1, x.2.2), (0, b2, f2, s2), (9, b3, f3, s3)] h))) 141 [(0, .ref b0), (2, .int a1)] [] (xw [(11, b0, f0, s0), (7, (b0 + 8), f1, t10), (0, b2, f2, s2), (9, b3, f3, s3)] h) _) z hz r h' hr
                  refine s_aload_n (pc := 141) 0 dX11_order_141 rfl ?_
                  refine xg_X11_25 0 ho rfl (pc := 142) dX11_order_142 rfl ?_
                  refine s_iload_n (pc := 145) 1 dX11_order_145 rfl ?_
                  refine xp_X11_344 (L' := fun s_11 => [(11, b0, f0, s0), (7, (b0 + 8), f1, s_11), (0, b2, f2, s2), (9, b3, f3, s3)]) 1 ho rfl (fun _ => rfl) (pc := 146) dX11_order_146 rfl (fun s_11 => ?_)
                  refine s_aload_n (pc := 149) 0 dX11_order_149 rfl ?_
                  refine x_callV (M := MX11_order) (L := [(11, b0, f0, s0), (7, (b0 + 8), f1, s_11), (0, b2, f2, s2), (9, b3, f3, s3)]) (h := h) (j := 0) (As := []) (st := []) (A := fun (x : Bool × RS) => some (.int (b2i x.1))) (Lc := [(11, b0, f0, s0)]) (Lr := fun (x : Bool × RS) => [(11, b0, f0, x.2)]) (L2 := fun (x : Bool × RS) => [(11, b0, f0, x.2), (7, (b0 + 8), f1, s_11), (0, b2, f2, s2), (9, b3, f3, s3)]) cv_X11_102 (by decide) (pc := 150) dX11_order_150 ho rfl xc0_11 rfl rfl (Nat.le_of_ble_eq_true rfl) (xovs (L := [(11, b0, f0, s0), (7, (b0 + 8), f1, s_11), (0, b2, f2, s2), (9, b3, f3, s3)]) (h := h) [(0, (11, b0, f0, s0))] ho ⟨rfl, trivial⟩).1 (fun x => (xovs (L := [(11, b0, f0, s0), (7, (b0 + 8), f1, s_11), (0, b2, f2, s2), (9, b3, f3, s3)]) (h := h) [(0, (11, b0, f0, x.2))] ho ⟨rfl, trivial⟩).1) (fun x hx => pX11_grant_ok (h := xw [(11, b0, f0, s0), (7, (b0 + 8), f1, s_11), (0, b2, f2, s2), (9, b3, f3, s3)] h) (f0 := f0) (xok_sub ho [0] rfl (by decide)) s0 x hx) rfl (fun x12 _ => ?_)
                  exact s_zretB (b := x12.1) (pc := 153) dX11_order_153 rfl (fun _ _ q => q)
              · refine s_aload_n (pc := 101) 0 dX11_order_101 rfl ?_
                refine s_bipush (v := 9) (pc := 102) dX11_order_102 (by decide) ?_
                refine x_callV (M := MX11_order) (L := [(11, b0, f0, s0), (7, (b0 + 8), f1, s1), (0, b2, f2, s2), (9, b3, f3, s3)]) (h := h) (j := 0) (As := [.int 9]) (st := []) (A := fun (x : Bool × RS) => some (.int (b2i x.1))) (Lc := [(11, b0, f0, s0)]) (Lr := fun (x : Bool × RS) => [(11, b0, f0, x.2)]) (L2 := fun (x : Bool × RS) => [(11, b0, f0, x.2), (7, (b0 + 8), f1, s1), (0, b2, f2, s2), (9, b3, f3, s3)]) cv_X11_95 (by decide) (pc := 104) dX11_order_104 ho rfl xc0_11 rfl rfl (Nat.le_of_ble_eq_true rfl) (xovs (L := [(11, b0, f0, s0), (7, (b0 + 8), f1, s1), (0, b2, f2, s2), (9, b3, f3, s3)]) (h := h) [(0, (11, b0, f0, s0))] ho ⟨rfl, trivial⟩).1 (fun x => (xovs (L := [(11, b0, f0, s0), (7, (b0 + 8), f1, s1), (0, b2, f2, s2), (9, b3, f3, s3)]) (h := h) [(0, (11, b0, f0, x.2))] ho ⟨rfl, trivial⟩).1) (fun x hx => pX11_deny_ok (h := xw [(11, b0, f0, s0), (7, (b0 + 8), f1, s1), (0, b2, f2, s2), (9, b3, f3, s3)] h) (f0 := f0) (xok_sub ho [0] rfl (by decide)) s0 (9 : Int32) x hx) rfl (fun x13 _ => ?_)
                exact s_zretB (b := x13.1) (pc := 107) dX11_order_107 rfl (fun _ _ q => q)
            · refine s_aload_n (pc := 81) 0 dX11_order_81 rfl ?_
              refine s_iconst (v := 5) (pc := 82) dX11_order_82 (by decide) ?_
              refine x_callV (M := MX11_order) (L := [(11, b0, f0, s0), (7, (b0 + 8), f1, s1), (0, b2, f2, s2), (9, b3, f3, s3)]) (h := h) (j := 0) (As := [.int 5]) (st := []) (A := fun (x : Bool × RS) => some (.int (b2i x.1))) (Lc := [(11, b0, f0, s0)]) (Lr := fun (x : Bool × RS) => [(11, b0, f0, x.2)]) (L2 := fun (x : Bool × RS) => [(11, b0, f0, x.2), (7, (b0 + 8), f1, s1), (0, b2, f2, s2), (9, b3, f3, s3)]) cv_X11_95 (by decide) (pc := 83) dX11_order_83 ho rfl xc0_11 rfl rfl (Nat.le_of_ble_eq_true rfl) (xovs (L := [(11, b0, f0, s0), (7, (b0 + 8), f1, s1), (0, b2, f2, s2), (9, b3, f3, s3)]) (h := h) [(0, (11, b0, f0, s0))] ho ⟨rfl, trivial⟩).1 (fun x => (xovs (L := [(11, b0, f0, s0), (7, (b0 + 8), f1, s1), (0, b2, f2, s2), (9, b3, f3, s3)]) (h := h) [(0, (11, b0, f0, x.2))] ho ⟨rfl, trivial⟩).1) (fun x hx => pX11_deny_ok (h := xw [(11, b0, f0, s0), (7, (b0 + 8), f1, s1), (0, b2, f2, s2), (9, b3, f3, s3)] h) (f0 := f0) (xok_sub ho [0] rfl (by decide)) s0 (5 : Int32) x hx) rfl (fun x14 _ => ?_)
              exact s_zretB (b := x14.1) (pc := 86) dX11_order_86 rfl (fun _ _ q => q)
          · refine s_aload_n (pc := 61) 0 dX11_order_61 rfl ?_
            refine s_iconst (v := 4) (pc := 62) dX11_order_62 (by decide) ?_
            refine x_callV (M := MX11_order) (L := [(11, b0, f0, s0), (7, (b0 + 8), f1, s1), (0, b2, f2, s2), (9, b3, f3, s3)]) (h := h) (j := 0) (As := [.int 4]) (st := []) (A := fun (x : Bool × RS) => some (.int (b2i x.1))) (Lc := [(11, b0, f0, s0)]) (Lr := fun (x : Bool × RS) => [(11, b0, f0, x.2)]) (L2 := fun (x : Bool × RS) => [(11, b0, f0, x.2), (7, (b0 + 8), f1, s1), (0, b2, f2, s2), (9, b3, f3, s3)]) cv_X11_95 (by decide) (pc := 63) dX11_order_63 ho rfl xc0_11 rfl rfl (Nat.le_of_ble_eq_true rfl) (xovs (L := [(11, b0, f0, s0), (7, (b0 + 8), f1, s1), (0, b2, f2, s2), (9, b3, f3, s3)]) (h := h) [(0, (11, b0, f0, s0))] ho ⟨rfl, trivial⟩).1 (fun x => (xovs (L := [(11, b0, f0, s0), (7, (b0 + 8), f1, s1), (0, b2, f2, s2), (9, b3, f3, s3)]) (h := h) [(0, (11, b0, f0, x.2))] ho ⟨rfl, trivial⟩).1) (fun x hx => pX11_deny_ok (h := xw [(11, b0, f0, s0), (7, (b0 + 8), f1, s1), (0, b2, f2, s2), (9, b3, f3, s3)] h) (f0 := f0) (xok_sub ho [0] rfl (by decide)) s0 (4 : Int32) x hx) rfl (fun x15 _ => ?_)
            exact s_zretB (b := x15.1) (pc := 66) dX11_order_66 rfl (fun _ _ q => q)
        · refine s_sub [0] rfl ?_
          exact X11_order_j41_ok ho hq_1_0 ht_a0 s0 s1 s2 s3
  · refine s_aload_n (pc := 7) 0 dX11_order_7 rfl ?_
    refine s_iconst (v := 1) (pc := 8) dX11_order_8 (by decide) ?_
    refine x_callV (M := MX11_order) (L := [(11, b0, f0, s0), (7, (b0 + 8), f1, s1), (0, b2, f2, s2), (9, b3, f3, s3)]) (h := h) (j := 0) (As := [.int 1]) (st := []) (A := fun (x : Bool × RS) => some (.int (b2i x.1))) (Lc := [(11, b0, f0, s0)]) (Lr := fun (x : Bool × RS) => [(11, b0, f0, x.2)]) (L2 := fun (x : Bool × RS) => [(11, b0, f0, x.2), (7, (b0 + 8), f1, s1), (0, b2, f2, s2), (9, b3, f3, s3)]) cv_X11_95 (by decide) (pc := 9) dX11_order_9 ho rfl xc0_11 rfl rfl (Nat.le_of_ble_eq_true rfl) (xovs (L := [(11, b0, f0, s0), (7, (b0 + 8), f1, s1), (0, b2, f2, s2), (9, b3, f3, s3)]) (h := h) [(0, (11, b0, f0, s0))] ho ⟨rfl, trivial⟩).1 (fun x => (xovs (L := [(11, b0, f0, s0), (7, (b0 + 8), f1, s1), (0, b2, f2, s2), (9, b3, f3, s3)]) (h := h) [(0, (11, b0, f0, x.2))] ho ⟨rfl, trivial⟩).1) (fun x hx => pX11_deny_ok (h := xw [(11, b0, f0, s0), (7, (b0 + 8), f1, s1), (0, b2, f2, s2), (9, b3, f3, s3)] h) (f0 := f0) (xok_sub ho [0] rfl (by decide)) s0 (1 : Int32) x hx) rfl (fun x17 _ => ?_)
    exact s_zretB (b := x17.1) (pc := 12) dX11_order_12 rfl (fun _ _ q => q)
theorem pX11_order_ok (ho : xok [(11, b0), (7, (b0 + 8)), (0, b2), (9, b3)] h.2.1) (hq_1_0 : f1 0 = some b2) (ht_a0 : vp_in a0 4 → b0 + 79 + 2 * a0.toNatClampNeg = b3) (s0 : RS) (s1 : RS) (s2 : RS) (s3 : RS) (a1 : Int32) : ∀ x, pX11_order s0 s1 s2 s3 a0 a1 = some x → aMet l 2 yX11_order cX11_order 4 (some .boolean) [.ref b0, .int a0, .int a1] (xw [(11, b0, f0, s0), (7, (b0 + 8), f1, s1), (0, b2, f2, s2), (9, b3, f3, s3)] h) (some (.int (b2i x.1))) (xw [(11, b0, f0, x.2.1), (7, (b0 + 8), f1, x.2.2), (0, b2, f2, s2), (9, b3, f3, s3)] h) := fun x hx => a_meth (ini := false) (y := yX11_order) (by decide +kernel) (fun q => by cases q) (fun _ => Nat.le_of_ble_eq_true rfl) (pX11_order_w ho hq_1_0 ht_a0 s0 s1 s2 s3 a1) x hx _ _ ⟨rfl, rfl⟩
end
section
variable {l : Launch} {n0 S0 : Nat} {h : aH} {b0 : Nat} {f0 f1 : Nat → Option Nat}
abbrev MX11_orderAt : aM := (cX11_orderAt, RX11, 2, (some .int), false)
def pX11_orderAt (s0 : RS) (s1 : RS) (a0 : Int32) : Option (Int32 × RS) :=
  (pX7_isInOrder s1 a0).bind fun x1 =>
  if x1 = true then
    g_in a0 16 (
    (pX11_tell s0 (s1.2.2.1 3 a0.toNatClampNeg)).bind fun x3 =>
    some (x3.1, x3.2))
  else
    (pX11_refuse s0 (8 : Int32)).bind fun x2 =>
    some (x2.1, x2.2)
theorem pX11_orderAt_w (ho : xok [(11, b0), (7, (b0 + 8))] h.2.1) (s0 : RS) (s1 : RS) (a0 : Int32) : aS l 1 MX11_orderAt n0 S0 (oΦ (fun (x : Int32 × RS) => ((some (.int x.1)), xw [(11, b0, f0, x.2), (7, (b0 + 8), f1, s1)] h))) 0 [(0, .ref b0), (1, .int a0)] [] (xw [(11, b0, f0, s0), (7, (b0 + 8), f1, s1)] h) (pX11_orderAt s0 s1 a0) := by
  unfold pX11_orderAt
  refine s_aload_n (pc := 0) 0 dX11_orderAt_0 rfl ?_
  refine xg_X11_25 0 ho rfl (pc := 1) dX11_orderAt_1 rfl ?_
  refine s_iload_n (pc := 4) 1 dX11_orderAt_4 rfl ?_
  refine x_callV (M := MX11_orderAt) (L := [(11, b0, f0, s0), (7, (b0 + 8), f1, s1)]) (h := h) (j := 1) (As := [.int a0]) (st := []) (A := fun (x : Bool) => some (.int (b2i x))) (Lc := [(7, (b0 + 8), f1, s1)]) (Lr := fun (x : Bool) => [(7, (b0 + 8), f1, s1)]) (L2 := fun (x : Bool) => [(11, b0, f0, s0), (7, (b0 + 8), f1, s1)]) cv_X11_358 (by decide) (pc := 5) dX11_orderAt_5 ho rfl xc0_7 rfl rfl (Nat.le_of_ble_eq_true rfl) (xovs (L := [(11, b0, f0, s0), (7, (b0 + 8), f1, s1)]) (h := h) [(1, (7, (b0 + 8), f1, s1))] ho ⟨rfl, trivial⟩).1 (fun x => (xovs (L := [(11, b0, f0, s0), (7, (b0 + 8), f1, s1)]) (h := h) [(1, (7, (b0 + 8), f1, s1))] ho ⟨rfl, trivial⟩).1) (fun x hx => pX7_isInOrder_ok (h := xw [(11, b0, f0, s0), (7, (b0 + 8), f1, s1)] h) (f0 := f1) (xok_sub ho [1] rfl (by decide)) s1 a0 x hx) rfl (fun x1 _ => ?_)
  refine s_if_eqB (tgt := 27) (pc := 8) dX11_orderAt_8 (by decide) (fun _ => ?_) (fun _ => ?_)
  · refine s_aload_n (pc := 11) 0 dX11_orderAt_11 rfl ?_
    refine s_aload_n (pc := 12) 0 dX11_orderAt_12 rfl ?_
    refine xg_X11_25 0 ho rfl (pc := 13) dX11_orderAt_13 rfl ?_
    refine xg_X11_337 1 ho rfl (pc := 16) dX11_orderAt_16 rfl ?_
    refine s_iload_n (pc := 19) 1 dX11_orderAt_19 rfl ?_
    refine xl_7_3 1 ho rfl (pc := 20) dX11_orderAt_20 ?_
    refine x_callV (M := MX11_orderAt) (L := [(11, b0, f0, s0), (7, (b0 + 8), f1, s1)]) (h := h) (j := 0) (As := [.int (s1.2.2.1 3 a0.toNatClampNeg)]) (st := []) (A := fun (x : Int32 × RS) => some (.int x.1)) (Lc := [(11, b0, f0, s0)]) (Lr := fun (x : Int32 × RS) => [(11, b0, f0, x.2)]) (L2 := fun (x : Int32 × RS) => [(11, b0, f0, x.2), (7, (b0 + 8), f1, s1)]) cv_X11_169 (by decide) (pc := 21) dX11_orderAt_21 ho rfl xc0_11 rfl rfl (Nat.le_of_ble_eq_true rfl) (xovs (L := [(11, b0, f0, s0), (7, (b0 + 8), f1, s1)]) (h := h) [(0, (11, b0, f0, s0))] ho ⟨rfl, trivial⟩).1 (fun x => (xovs (L := [(11, b0, f0, s0), (7, (b0 + 8), f1, s1)]) (h := h) [(0, (11, b0, f0, x.2))] ho ⟨rfl, trivial⟩).1) (fun x hx => pX11_tell_ok (h := xw [(11, b0, f0, s0), (7, (b0 + 8), f1, s1)] h) (f0 := f0) (xok_sub ho [0] rfl (by decide)) s0 (s1.2.2.1 3 a0.toNatClampNeg) x hx) rfl (fun x3 _ => ?_)
    refine s_goto (tgt := 33) (pc := 24) dX11_orderAt_24 (by decide) ?_
    exact s_iret (pc := 33) dX11_orderAt_33 rfl (fun _ _ q => q)
  · refine s_aload_n (pc := 27) 0 dX11_orderAt_27 rfl ?_
    refine s_bipush (v := 8) (pc := 28) dX11_orderAt_28 (by decide) ?_
    refine x_callV (M := MX11_orderAt) (L := [(11, b0, f0, s0), (7, (b0 + 8), f1, s1)]) (h := h) (j := 0) (As := [.int 8]) (st := []) (A := fun (x : Int32 × RS) => some (.int x.1)) (Lc := [(11, b0, f0, s0)]) (Lr := fun (x : Int32 × RS) => [(11, b0, f0, x.2)]) (L2 := fun (x : Int32 × RS) => [(11, b0, f0, x.2), (7, (b0 + 8), f1, s1)]) cv_X11_113 (by decide) (pc := 30) dX11_orderAt_30 ho rfl xc0_11 rfl rfl (Nat.le_of_ble_eq_true rfl) (xovs (L := [(11, b0, f0, s0), (7, (b0 + 8), f1, s1)]) (h := h) [(0, (11, b0, f0, s0))] ho ⟨rfl, trivial⟩).1 (fun x => (xovs (L := [(11, b0, f0, s0), (7, (b0 + 8), f1, s1)]) (h := h) [(0, (11, b0, f0, x.2))] ho ⟨rfl, trivial⟩).1) (fun x hx => pX11_refuse_ok (h := xw [(11, b0, f0, s0), (7, (b0 + 8), f1, s1)] h) (f0 := f0) (xok_sub ho [0] rfl (by decide)) s0 (8 : Int32) x hx) rfl (fun x2 _ => ?_)
    exact s_iret (pc := 33) dX11_orderAt_33 rfl (fun _ _ q => q)
theorem pX11_orderAt_ok (ho : xok [(11, b0), (7, (b0 + 8))] h.2.1) (s0 : RS) (s1 : RS) (a0 : Int32) : ∀ x, pX11_orderAt s0 s1 a0 = some x → aMet l 1 yX11_orderAt cX11_orderAt 2 (some .int) [.ref b0, .int a0] (xw [(11, b0, f0, s0), (7, (b0 + 8), f1, s1)] h) (some (.int x.1)) (xw [(11, b0, f0, x.2), (7, (b0 + 8), f1, s1)] h) := fun x hx => a_meth (ini := false) (y := yX11_orderAt) (by decide +kernel) (fun q => by cases q) (fun _ => Nat.le_of_ble_eq_true rfl) (pX11_orderAt_w ho s0 s1 a0) x hx _ _ ⟨rfl, rfl⟩
end
section
variable {l : Launch} {n0 S0 : Nat} {h : aH} {b0 b2 : Nat} {f0 f1 f2 f3 : Nat → Option Nat}
abbrev MX11_acts : aM := (cX11_acts, RX11, 4, (some .int), false)
def X11_acts_j78 (v2 : Int32) (k3 : Int32) (s0 : RS) (s1 : RS) (s2 : RS) (s3 : RS) : Option (Int32 × RS × RS) :=
  (pX7_firstOfOrder s1 k3).bind fun x4 =>
  (pX2_fill s3 s2 x4).bind fun x5 =>
  g_in v2 16 (
  (pX2_placeOf x5 (s2.2.2.1 7 v2.toNatClampNeg)).bind fun x6 =>
  (pX11_tell s0 x6).bind fun x7 =>
  some (x7.1, x7.2, x5))
theorem X11_acts_j78_ok (ho : xok [(11, b0), (7, (b0 + 8)), (0, b2), (2, (b0 + 26))] h.2.1) (hq_1_0 : f1 0 = some b2) (v2 : Int32) (k3 : Int32) (s0 : RS) (s1 : RS) (s2 : RS) (s3 : RS) : aS l 4 MX11_acts n0 S0 (oΦ (fun (x : Int32 × RS × RS) => ((some (.int x.1)), xw [(11, b0, f0, x.2.1), (7, (b0 + 8), f1, s1), (0, b2, f2, s2), (2, (b0 + 26), f3, x.2.2)] h))) 78 [(0, .ref b0), (2, .int v2)] [.int k3, .ref (b0 + 8), .ref b2, .ref (b0 + 26)] (xw [(11, b0, f0, s0), (7, (b0 + 8), f1, s1), (0, b2, f2, s2), (2, (b0 + 26), f3, s3)] h) (X11_acts_j78 v2 k3 s0 s1 s2 s3) := by
  unfold X11_acts_j78
  refine x_callV (M := MX11_acts) (L := [(11, b0, f0, s0), (7, (b0 + 8), f1, s1), (0, b2, f2, s2), (2, (b0 + 26), f3, s3)]) (h := h) (j := 1) (As := [.int k3]) (st := [.ref b2, .ref (b0 + 26)]) (A := fun (x : Int32) => some (.int x)) (Lc := [(7, (b0 + 8), f1, s1)]) (Lr := fun (x : Int32) => [(7, (b0 + 8), f1, s1)]) (L2 := fun (x : Int32) => [(11, b0, f0, s0), (7, (b0 + 8), f1, s1), (0, b2, f2, s2), (2, (b0 + 26), f3, s3)]) cv_X11_361 (by decide) (pc := 78) dX11_acts_78 ho rfl xc0_7 rfl rfl (Nat.le_of_ble_eq_true rfl) (xovs (L := [(11, b0, f0, s0), (7, (b0 + 8), f1, s1), (0, b2, f2, s2), (2, (b0 + 26), f3, s3)]) (h := h) [(1, (7, (b0 + 8), f1, s1))] ho ⟨rfl, trivial⟩).1 (fun x => (xovs (L := [(11, b0, f0, s0), (7, (b0 + 8), f1, s1), (0, b2, f2, s2), (2, (b0 + 26), f3, s3)]) (h := h) [(1, (7, (b0 + 8), f1, s1))] ho ⟨rfl, trivial⟩).1) (fun x hx => pX7_firstOfOrder_ok (h := xw [(11, b0, f0, s0), (7, (b0 + 8), f1, s1), (0, b2, f2, s2), (2, (b0 + 26), f3, s3)] h) (f0 := f1) (xok_sub ho [1] rfl (by decide)) s1 k3 x hx) rfl (fun x4 _ => ?_)
  refine x_callV (M := MX11_acts) (L := [(11, b0, f0, s0), (7, (b0 + 8), f1, s1), (0, b2, f2, s2), (2, (b0 + 26), f3, s3)]) (h := h) (j := 3) (As := [.ref b2, .int x4]) (st := []) (A := fun (x : RS) => none) (Lc := [(2, (b0 + 26), f3, s3), (0, b2, f2, s2)]) (Lr := fun (x : RS) => [(2, (b0 + 26), f3, x), (0, b2, f2, s2)]) (L2 := fun (x : RS) => [(11, b0, f0, s0), (7, (b0 + 8), f1, s1), (0, b2, f2, s2), (2, (b0 + 26), f3, x)]) cv_X11_265 (by decide) (pc := 81) dX11_acts_81 ho rfl xc0_2 rfl rfl (Nat.le_of_ble_eq_true rfl) (xovs (L := [(11, b0, f0, s0), (7, (b0 + 8), f1, s1), (0, b2, f2, s2), (2, (b0 + 26), f3, s3)]) (h := h) [(3, (2, (b0 + 26), f3, s3)), (2, (0, b2, f2, s2))] ho ⟨rfl, rfl, trivial⟩).1 (fun x => (xovs (L := [(11, b0, f0, s0), (7, (b0 + 8), f1, s1), (0, b2, f2, s2), (2, (b0 + 26), f3, s3)]) (h := h) [(3, (2, (b0 + 26), f3, x)), (2, (0, b2, f2, s2))] ho ⟨rfl, rfl, trivial⟩).1) (fun x hx => pX2_fill_ok (h := xw [(11, b0, f0, s0), (7, (b0 + 8), f1, s1), (0, b2, f2, s2), (2, (b0 + 26), f3, s3)] h) (f0 := f3) (f1 := f2) (xok_sub ho [3, 2] rfl (by decide)) s3 s2 x4 x hx) rfl (fun x5 _ => ?_)
  refine s_aload_n (pc := 84) 0 dX11_acts_84 rfl ?_
  refine s_aload_n (pc := 85) 0 dX11_acts_85 rfl ?_
  refine xg_X11_36 0 ho rfl (pc := 86) dX11_acts_86 rfl ?_
  refine s_aload_n (pc := 89) 0 dX11_acts_89 rfl ?_
  refine xg_X11_25 0 ho rfl (pc := 90) dX11_acts_90 rfl ?_
  refine xg_X11_174 1 ho rfl (pc := 93) dX11_acts_93 rfl hq_1_0 ?_
  refine xg_X11_226 2 ho rfl (pc := 96) dX11_acts_96 rfl ?_
  refine s_iload_n (pc := 99) 1 dX11_acts_99 rfl ?_
  refine xl_0_7 2 ho rfl (pc := 100) dX11_acts_100 ?_
  refine x_callV (M := MX11_acts) (L := [(11, b0, f0, s0), (7, (b0 + 8), f1, s1), (0, b2, f2, s2), (2, (b0 + 26), f3, x5)]) (h := h) (j := 3) (As := [.int (s2.2.2.1 7 v2.toNatClampNeg)]) (st := [.ref b0]) (A := fun (x : Int32) => some (.int x)) (Lc := [(2, (b0 + 26), f3, x5)]) (Lr := fun (x : Int32) => [(2, (b0 + 26), f3, x5)]) (L2 := fun (x : Int32) => [(11, b0, f0, s0), (7, (b0 + 8), f1, s1), (0, b2, f2, s2), (2, (b0 + 26), f3, x5)]) cv_X11_278 (by decide) (pc := 101) dX11_acts_101 ho rfl xc0_2 rfl rfl (Nat.le_of_ble_eq_true rfl) (xovs (L := [(11, b0, f0, s0), (7, (b0 + 8), f1, s1), (0, b2, f2, s2), (2, (b0 + 26), f3, x5)]) (h := h) [(3, (2, (b0 + 26), f3, x5))] ho ⟨rfl, trivial⟩).1 (fun x => (xovs (L := [(11, b0, f0, s0), (7, (b0 + 8), f1, s1), (0, b2, f2, s2), (2, (b0 + 26), f3, x5)]) (h := h) [(3, (2, (b0 + 26), f3, x5))] ho ⟨rfl, trivial⟩).1) (fun x hx => pX2_placeOf_ok (h := xw [(11, b0, f0, s0), (7, (b0 + 8), f1, s1), (0, b2, f2, s2), (2, (b0 + 26), f3, x5)] h) (f0 := f3) (xok_sub ho [3] rfl (by decide)) x5 (s2.2.2.1 7 v2.toNatClampNeg) x hx) rfl (fun x6 _ => ?_)
  refine x_callV (M := MX11_acts) (L := [(11, b0, f0, s0), (7, (b0 + 8), f1, s1), (0, b2, f2, s2), (2, (b0 + 26), f3, x5)]) (h := h) (j := 0) (As := [.int x6]) (st := []) (A := fun (x : Int32 × RS) => some (.int x.1)) (Lc := [(11, b0, f0, s0)]) (Lr := fun (x : Int32 × RS) => [(11, b0, f0, x.2)]) (L2 := fun (x : Int32 × RS) => [(11, b0, f0, x.2), (7, (b0 + 8), f1, s1), (0, b2, f2, s2), (2, (b0 + 26), f3, x5)]) cv_X11_169 (by decide) (pc := 104) dX11_acts_104 ho rfl xc0_11 rfl rfl (Nat.le_of_ble_eq_true rfl) (xovs (L := [(11, b0, f0, s0), (7, (b0 + 8), f1, s1), (0, b2, f2, s2), (2, (b0 + 26), f3, x5)]) (h := h) [(0, (11, b0, f0, s0))] ho ⟨rfl, trivial⟩).1 (fun x => (xovs (L := [(11, b0, f0, s0), (7, (b0 + 8), f1, s1), (0, b2, f2, s2), (2, (b0 + 26), f3, x5)]) (h := h) [(0, (11, b0, f0, x.2))] ho ⟨rfl, trivial⟩).1) (fun x hx => pX11_tell_ok (h := xw [(11, b0, f0, s0), (7, (b0 + 8), f1, s1), (0, b2, f2, s2), (2, (b0 + 26), f3, x5)] h) (f0 := f0) (xok_sub ho [0] rfl (by decide)) s0 x6 x hx) rfl (fun x7 _ => ?_)
  exact s_iret (pc := 107) dX11_acts_107 rfl (fun _ _ q => q)
def pX11_acts (s0 : RS) (s1 : RS) (s2 : RS) (s3 : RS) (a0 : Int32) : Option (Int32 × RS × RS) :=
  (pX7_isInOrder s1 a0).bind fun x1 =>
  if x1 = true then
    g_in a0 16 (
    thn (s1.2.2.1 3 a0.toNatClampNeg) fun x2 =>
    g_in x2 16 (
    thn (s2.2.2.1 4 x2.toNatClampNeg) fun x3 =>
    if x3 = (4 : Int32) then
      (pX11_tell s0 (-1 : Int32)).bind fun x8 =>
      some (x8.1, x8.2, s3)
    else
      if x3 = 0 then
        X11_acts_j78 x2 (a0 + (1 : Int32)) s0 s1 s2 s3
      else
        X11_acts_j78 x2 a0 s0 s1 s2 s3))
  else
    (pX11_refuse s0 (8 : Int32)).bind fun x9 =>
    some (x9.1, x9.2, s3)
theorem pX11_acts_w (ho : xok [(11, b0), (7, (b0 + 8)), (0, b2), (2, (b0 + 26))] h.2.1) (hq_1_0 : f1 0 = some b2) (s0 : RS) (s1 : RS) (s2 : RS) (s3 : RS) (a0 : Int32) : aS l 4 MX11_acts n0 S0 (oΦ (fun (x : Int32 × RS × RS) => ((some (.int x.1)), xw [(11, b0, f0, x.2.1), (7, (b0 + 8), f1, s1), (0, b2, f2, s2), (2, (b0 + 26), f3, x.2.2)] h))) 0 [(0, .ref b0), (1, .int a0)] [] (xw [(11, b0, f0, s0), (7, (b0 + 8), f1, s1), (0, b2, f2, s2), (2, (b0 + 26), f3, s3)] h) (pX11_acts s0 s1 s2 s3 a0) := by
  unfold pX11_acts
  refine s_aload_n (pc := 0) 0 dX11_acts_0 rfl ?_
  refine xg_X11_25 0 ho rfl (pc := 1) dX11_acts_1 rfl ?_
  refine s_iload_n (pc := 4) 1 dX11_acts_4 rfl ?_
  refine x_callV (M := MX11_acts) (L := [(11, b0, f0, s0), (7, (b0 + 8), f1, s1), (0, b2, f2, s2), (2, (b0 + 26), f3, s3)]) (h := h) (j := 1) (As := [.int a0]) (st := []) (A := fun (x : Bool) => some (.int (b2i x))) (Lc := [(7, (b0 + 8), f1, s1)]) (Lr := fun (x : Bool) => [(7, (b0 + 8), f1, s1)]) (L2 := fun (x : Bool) => [(11, b0, f0, s0), (7, (b0 + 8), f1, s1), (0, b2, f2, s2), (2, (b0 + 26), f3, s3)]) cv_X11_358 (by decide) (pc := 5) dX11_acts_5 ho rfl xc0_7 rfl rfl (Nat.le_of_ble_eq_true rfl) (xovs (L := [(11, b0, f0, s0), (7, (b0 + 8), f1, s1), (0, b2, f2, s2), (2, (b0 + 26), f3, s3)]) (h := h) [(1, (7, (b0 + 8), f1, s1))] ho ⟨rfl, trivial⟩).1 (fun x => (xovs (L := [(11, b0, f0, s0), (7, (b0 + 8), f1, s1), (0, b2, f2, s2), (2, (b0 + 26), f3, s3)]) (h := h) [(1, (7, (b0 + 8), f1, s1))] ho ⟨rfl, trivial⟩).1) (fun x hx => pX7_isInOrder_ok (h := xw [(11, b0, f0, s0), (7, (b0 + 8), f1, s1), (0, b2, f2, s2), (2, (b0 + 26), f3, s3)] h) (f0 := f1) (xok_sub ho [1] rfl (by decide)) s1 a0 x hx) rfl (fun x1 _ => ?_)
  refine s_if_neB (tgt := 18) (pc := 8) dX11_acts_8 (by decide) (fun _ => ?_) (fun _ => ?_)
  · refine s_aload_n (pc := 18) 0 dX11_acts_18 rfl ?_
    refine xg_X11_25 0 ho rfl (pc := 19) dX11_acts_19 rfl ?_
    refine xg_X11_337 1 ho rfl (pc := 22) dX11_acts_22 rfl ?_
    refine s_iload_n (pc := 25) 1 dX11_acts_25 rfl ?_
    refine xl_7_3 1 ho rfl (pc := 26) dX11_acts_26 ?_
    refine s_istore_nT (lv' := fun x2 => [(2, .int x2), (0, .ref b0), (1, .int a0)]) (pc := 27) dX11_acts_27 (by decide) (fun _ => rfl) (fun x2 => ?_)
    refine s_aload_n (pc := 28) 1 dX11_acts_28 rfl ?_
    refine xg_X11_25 0 ho rfl (pc := 29) dX11_acts_29 rfl ?_
    refine xg_X11_174 1 ho rfl (pc := 32) dX11_acts_32 rfl hq_1_0 ?_
    refine xg_X11_215 2 ho rfl (pc := 35) dX11_acts_35 rfl ?_
    refine s_iload_n (pc := 38) 0 dX11_acts_38 rfl ?_
    refine xl_0_4 2 ho rfl (pc := 39) dX11_acts_39 ?_
    refine s_istore_nT (lv' := fun x3 => [(3, .int x3), (2, .int x2), (0, .ref b0), (1, .int a0)]) (pc := 40) dX11_acts_40 (by decide) (fun _ => rfl) (fun x3 => ?_)
    refine s_iload_n (pc := 41) 0 dX11_acts_41 rfl ?_
    refine s_iconst (v := 4) (pc := 42) dX11_acts_42 (by decide) ?_
    refine s_icmp_ne (tgt := 52) (pc := 43) dX11_acts_43 (by decide) (fun _ => ?_) (fun _ => ?_)
    · refine s_aload_n (pc := 46) 2 dX11_acts_46 rfl ?_
      refine s_iconst (v := (-1)) (pc := 47) dX11_acts_47 (by decide) ?_
      refine x_callV (M := MX11_acts) (L := [(11, b0, f0, s0), (7, (b0 + 8), f1, s1), (0, b2, f2, s2), (2, (b0 + 26), f3, s3)]) (h := h) (j := 0) (As := [.int (-1)]) (st := []) (A := fun (x : Int32 × RS) => some (.int x.1)) (Lc := [(11, b0, f0, s0)]) (Lr := fun (x : Int32 × RS) => [(11, b0, f0, x.2)]) (L2 := fun (x : Int32 × RS) => [(11, b0, f0, x.2), (7, (b0 + 8), f1, s1), (0, b2, f2, s2), (2, (b0 + 26), f3, s3)]) cv_X11_169 (by decide) (pc := 48) dX11_acts_48 ho rfl xc0_11 rfl rfl (Nat.le_of_ble_eq_true rfl) (xovs (L := [(11, b0, f0, s0), (7, (b0 + 8), f1, s1), (0, b2, f2, s2), (2, (b0 + 26), f3, s3)]) (h := h) [(0, (11, b0, f0, s0))] ho ⟨rfl, trivial⟩).1 (fun x => (xovs (L := [(11, b0, f0, s0), (7, (b0 + 8), f1, s1), (0, b2, f2, s2), (2, (b0 + 26), f3, s3)]) (h := h) [(0, (11, b0, f0, x.2))] ho ⟨rfl, trivial⟩).1) (fun x hx => pX11_tell_ok (h := xw [(11, b0, f0, s0), (7, (b0 + 8), f1, s1), (0, b2, f2, s2), (2, (b0 + 26), f3, s3)] h) (f0 := f0) (xok_sub ho [0] rfl (by decide)) s0 (-1 : Int32) x hx) rfl (fun x8 _ => ?_)
      exact s_iret (pc := 51) dX11_acts_51 rfl (fun _ _ q => q)
    · refine s_aload_n (pc := 52) 2 dX11_acts_52 rfl ?_
      refine xg_X11_36 0 ho rfl (pc := 53) dX11_acts_53 rfl ?_
      refine s_aload_n (pc := 56) 2 dX11_acts_56 rfl ?_
      refine xg_X11_25 0 ho rfl (pc := 57) dX11_acts_57 rfl ?_
      refine xg_X11_174 1 ho rfl (pc := 60) dX11_acts_60 rfl hq_1_0 ?_
      refine s_aload_n (pc := 63) 2 dX11_acts_63 rfl ?_
      refine xg_X11_25 0 ho rfl (pc := 64) dX11_acts_64 rfl ?_
      refine s_iload_n (pc := 67) 0 dX11_acts_67 rfl ?_
      refine s_if_ne (tgt := 77) (pc := 68) dX11_acts_68 (by decide) (fun _ => ?_) (fun _ => ?_)
      · refine s_iload_n (pc := 71) 3 dX11_acts_71 rfl ?_
        refine s_iconst (v := 1) (pc := 72) dX11_acts_72 (by decide) ?_
        refine s_iadd (pc := 73) dX11_acts_73 ?_
        refine s_goto (tgt := 78) (pc := 74) dX11_acts_74 (by decide) ?_
        refine s_sub [2, 1] rfl ?_
        exact X11_acts_j78_ok ho hq_1_0 x2 (a0 + (1 : Int32)) s0 s1 s2 s3
      · refine s_iload_n (pc := 77) 3 dX11_acts_77 rfl ?_
        refine s_sub [2, 1] rfl ?_
        exact X11_acts_j78_ok ho hq_1_0 x2 a0 s0 s1 s2 s3
  · refine s_aload_n (pc := 11) 0 dX11_acts_11 rfl ?_
    refine s_bipush (v := 8) (pc := 12) dX11_acts_12 (by decide) ?_
    refine x_callV (M := MX11_acts) (L := [(11, b0, f0, s0), (7, (b0 + 8), f1, s1), (0, b2, f2, s2), (2, (b0 + 26), f3, s3)]) (h := h) (j := 0) (As := [.int 8]) (st := []) (A := fun (x : Int32 × RS) => some (.int x.1)) (Lc := [(11, b0, f0, s0)]) (Lr := fun (x : Int32 × RS) => [(11, b0, f0, x.2)]) (L2 := fun (x : Int32 × RS) => [(11, b0, f0, x.2), (7, (b0 + 8), f1, s1), (0, b2, f2, s2), (2, (b0 + 26), f3, s3)]) cv_X11_113 (by decide) (pc := 14) dX11_acts_14 ho rfl xc0_11 rfl rfl (Nat.le_of_ble_eq_true rfl) (xovs (L := [(11, b0, f0, s0), (7, (b0 + 8), f1, s1), (0, b2, f2, s2), (2, (b0 + 26), f3, s3)]) (h := h) [(0, (11, b0, f0, s0))] ho ⟨rfl, trivial⟩).1 (fun x => (xovs (L := [(11, b0, f0, s0), (7, (b0 + 8), f1, s1), (0, b2, f2, s2), (2, (b0 + 26), f3, s3)]) (h := h) [(0, (11, b0, f0, x.2))] ho ⟨rfl, trivial⟩).1) (fun x hx => pX11_refuse_ok (h := xw [(11, b0, f0, s0), (7, (b0 + 8), f1, s1), (0, b2, f2, s2), (2, (b0 + 26), f3, s3)] h) (f0 := f0) (xok_sub ho [0] rfl (by decide)) s0 (8 : Int32) x hx) rfl (fun x9 _ => ?_)
    exact s_iret (pc := 17) dX11_acts_17 rfl (fun _ _ q => q)
theorem pX11_acts_ok (ho : xok [(11, b0), (7, (b0 + 8)), (0, b2), (2, (b0 + 26))] h.2.1) (hq_1_0 : f1 0 = some b2) (s0 : RS) (s1 : RS) (s2 : RS) (s3 : RS) (a0 : Int32) : ∀ x, pX11_acts s0 s1 s2 s3 a0 = some x → aMet l 4 yX11_acts cX11_acts 4 (some .int) [.ref b0, .int a0] (xw [(11, b0, f0, s0), (7, (b0 + 8), f1, s1), (0, b2, f2, s2), (2, (b0 + 26), f3, s3)] h) (some (.int x.1)) (xw [(11, b0, f0, x.2.1), (7, (b0 + 8), f1, s1), (0, b2, f2, s2), (2, (b0 + 26), f3, x.2.2)] h) := fun x hx => a_meth (ini := false) (y := yX11_acts) (by decide +kernel) (fun q => by cases q) (fun _ => Nat.le_of_ble_eq_true rfl) (pX11_acts_w ho hq_1_0 s0 s1 s2 s3 a0) x hx _ _ ⟨rfl, rfl⟩
end
section
variable {l : Launch} {n0 S0 : Nat} {h : aH} {b0 b2 : Nat} {f0 f1 f2 : Nat → Option Nat}
abbrev MX11_swap : aM := (cX11_swap, RX11, 2, (some .boolean), false)
def X11_swap_j24 (s0 : RS) (s1 : RS) (s2 : RS) : Option (Bool × RS × RS) :=
  (pX11_deny s0 (8 : Int32)).bind fun x2 =>
  some (x2.1, x2.2, s1)
theorem X11_swap_j24_ok (ho : xok [(11, b0), (7, (b0 + 8)), (0, b2)] h.2.1) (hq_1_0 : f1 0 = some b2) (s0 : RS) (s1 : RS) (s2 : RS) : aS l 2 MX11_swap n0 S0 (oΦ (fun (x : Bool × RS × RS) => ((some (.int (b2i x.1))), xw [(11, b0, f0, x.2.1), (7, (b0 + 8), f1, x.2.2), (0, b2, f2, s2)] h))) 24 [(0, .ref b0)] [] (xw [(11, b0, f0, s0), (7, (b0 + 8), f1, s1), (0, b2, f2, s2)] h) (X11_swap_j24 s0 s1 s2) := by
  unfold X11_swap_j24
  refine s_aload_n (pc := 24) 0 dX11_swap_24 rfl ?_
  refine s_bipush (v := 8) (pc := 25) dX11_swap_25 (by decide) ?_
  refine x_callV (M := MX11_swap) (L := [(11, b0, f0, s0), (7, (b0 + 8), f1, s1), (0, b2, f2, s2)]) (h := h) (j := 0) (As := [.int 8]) (st := []) (A := fun (x : Bool × RS) => some (.int (b2i x.1))) (Lc := [(11, b0, f0, s0)]) (Lr := fun (x : Bool × RS) => [(11, b0, f0, x.2)]) (L2 := fun (x : Bool × RS) => [(11, b0, f0, x.2), (7, (b0 + 8), f1, s1), (0, b2, f2, s2)]) cv_X11_95 (by decide) (pc := 27) dX11_swap_27 ho rfl xc0_11 rfl rfl (Nat.le_of_ble_eq_true rfl) (xovs (L := [(11, b0, f0, s0), (7, (b0 + 8), f1, s1), (0, b2, f2, s2)]) (h := h) [(0, (11, b0, f0, s0))] ho ⟨rfl, trivial⟩).1 (fun x => (xovs (L := [(11, b0, f0, s0), (7, (b0 + 8), f1, s1), (0, b2, f2, s2)]) (h := h) [(0, (11, b0, f0, x.2))] ho ⟨rfl, trivial⟩).1) (fun x hx => pX11_deny_ok (h := xw [(11, b0, f0, s0), (7, (b0 + 8), f1, s1), (0, b2, f2, s2)] h) (f0 := f0) (xok_sub ho [0] rfl (by decide)) s0 (8 : Int32) x hx) rfl (fun x2 _ => ?_)
  exact s_zretB (b := x2.1) (pc := 30) dX11_swap_30 rfl (fun _ _ q => q)
def pX11_swap (s0 : RS) (s1 : RS) (s2 : RS) (a0 : Int32) : Option (Bool × RS × RS) :=
  (pX7_isInOrder s1 a0).bind fun x1 =>
  if x1 = true then
    (pX7_isInOrder s1 (a0 + (1 : Int32))).bind fun x3 =>
    if x3 = true then
      (pX7_maySwap s1 s2 a0).bind fun x4 =>
      if x4 = true then
        (pX7_exchange s1 a0).bind fun x5 =>
        (pX11_grant s0).bind fun x6 =>
        some (x6.1, x6.2, x5)
      else
        (pX11_deny s0 (9 : Int32)).bind fun x7 =>
        some (x7.1, x7.2, s1)
    else
      X11_swap_j24 s0 s1 s2
  else
    X11_swap_j24 s0 s1 s2
theorem pX11_swap_w (ho : xok [(11, b0), (7, (b0 + 8)), (0, b2)] h.2.1) (hq_1_0 : f1 0 = some b2) (s0 : RS) (s1 : RS) (s2 : RS) (a0 : Int32) : aS l 2 MX11_swap n0 S0 (oΦ (fun (x : Bool × RS × RS) => ((some (.int (b2i x.1))), xw [(11, b0, f0, x.2.1), (7, (b0 + 8), f1, x.2.2), (0, b2, f2, s2)] h))) 0 [(0, .ref b0), (1, .int a0)] [] (xw [(11, b0, f0, s0), (7, (b0 + 8), f1, s1), (0, b2, f2, s2)] h) (pX11_swap s0 s1 s2 a0) := by
  unfold pX11_swap
  refine s_aload_n (pc := 0) 0 dX11_swap_0 rfl ?_
  refine xg_X11_25 0 ho rfl (pc := 1) dX11_swap_1 rfl ?_
  refine s_iload_n (pc := 4) 1 dX11_swap_4 rfl ?_
  refine x_callV (M := MX11_swap) (L := [(11, b0, f0, s0), (7, (b0 + 8), f1, s1), (0, b2, f2, s2)]) (h := h) (j := 1) (As := [.int a0]) (st := []) (A := fun (x : Bool) => some (.int (b2i x))) (Lc := [(7, (b0 + 8), f1, s1)]) (Lr := fun (x : Bool) => [(7, (b0 + 8), f1, s1)]) (L2 := fun (x : Bool) => [(11, b0, f0, s0), (7, (b0 + 8), f1, s1), (0, b2, f2, s2)]) cv_X11_358 (by decide) (pc := 5) dX11_swap_5 ho rfl xc0_7 rfl rfl (Nat.le_of_ble_eq_true rfl) (xovs (L := [(11, b0, f0, s0), (7, (b0 + 8), f1, s1), (0, b2, f2, s2)]) (h := h) [(1, (7, (b0 + 8), f1, s1))] ho ⟨rfl, trivial⟩).1 (fun x => (xovs (L := [(11, b0, f0, s0), (7, (b0 + 8), f1, s1), (0, b2, f2, s2)]) (h := h) [(1, (7, (b0 + 8), f1, s1))] ho ⟨rfl, trivial⟩).1) (fun x hx => pX7_isInOrder_ok (h := xw [(11, b0, f0, s0), (7, (b0 + 8), f1, s1), (0, b2, f2, s2)] h) (f0 := f1) (xok_sub ho [1] rfl (by decide)) s1 a0 x hx) rfl (fun x1 _ => ?_)
  refine s_if_eqB (tgt := 24) (pc := 8) dX11_swap_8 (by decide) (fun _ => ?_) (fun _ => ?_)
  · refine s_aload_n (pc := 11) 0 dX11_swap_11 rfl ?_
    refine xg_X11_25 0 ho rfl (pc := 12) dX11_swap_12 rfl ?_
    refine s_iload_n (pc := 15) 1 dX11_swap_15 rfl ?_
    refine s_iconst (v := 1) (pc := 16) dX11_swap_16 (by decide) ?_
    refine s_iadd (pc := 17) dX11_swap_17 ?_
    refine x_callV (M := MX11_swap) (L := [(11, b0, f0, s0), (7, (b0 + 8), f1, s1), (0, b2, f2, s2)]) (h := h) (j := 1) (As := [.int (a0 + (1 : Int32))]) (st := []) (A := fun (x : Bool) => some (.int (b2i x))) (Lc := [(7, (b0 + 8), f1, s1)]) (Lr := fun (x : Bool) => [(7, (b0 + 8), f1, s1)]) (L2 := fun (x : Bool) => [(11, b0, f0, s0), (7, (b0 + 8), f1, s1), (0, b2, f2, s2)]) cv_X11_358 (by decide) (pc := 18) dX11_swap_18 ho rfl xc0_7 rfl rfl (Nat.le_of_ble_eq_true rfl) (xovs (L := [(11, b0, f0, s0), (7, (b0 + 8), f1, s1), (0, b2, f2, s2)]) (h := h) [(1, (7, (b0 + 8), f1, s1))] ho ⟨rfl, trivial⟩).1 (fun x => (xovs (L := [(11, b0, f0, s0), (7, (b0 + 8), f1, s1), (0, b2, f2, s2)]) (h := h) [(1, (7, (b0 + 8), f1, s1))] ho ⟨rfl, trivial⟩).1) (fun x hx => pX7_isInOrder_ok (h := xw [(11, b0, f0, s0), (7, (b0 + 8), f1, s1), (0, b2, f2, s2)] h) (f0 := f1) (xok_sub ho [1] rfl (by decide)) s1 (a0 + (1 : Int32)) x hx) rfl (fun x3 _ => ?_)
    refine s_if_neB (tgt := 31) (pc := 21) dX11_swap_21 (by decide) (fun _ => ?_) (fun _ => ?_)
    · refine s_aload_n (pc := 31) 0 dX11_swap_31 rfl ?_
      refine xg_X11_25 0 ho rfl (pc := 32) dX11_swap_32 rfl ?_
      refine s_iload_n (pc := 35) 1 dX11_swap_35 rfl ?_
      refine x_callV (M := MX11_swap) (L := [(11, b0, f0, s0), (7, (b0 + 8), f1, s1), (0, b2, f2, s2)]) (h := h) (j := 1) (As := [.int a0]) (st := []) (A := fun (x : Bool) => some (.int (b2i x))) (Lc := [(7, (b0 + 8), f1, s1), (0, b2, f2, s2)]) (Lr := fun (x : Bool) => [(7, (b0 + 8), f1, s1), (0, b2, f2, s2)]) (L2 := fun (x : Bool) => [(11, b0, f0, s0), (7, (b0 + 8), f1, s1), (0, b2, f2, s2)]) cv_X11_364 (by decide) (pc := 36) dX11_swap_36 ho rfl xc0_7 rfl rfl (Nat.le_of_ble_eq_true rfl) (xovs (L := [(11, b0, f0, s0), (7, (b0 + 8), f1, s1), (0, b2, f2, s2)]) (h := h) [(1, (7, (b0 + 8), f1, s1)), (2, (0, b2, f2, s2))] ho ⟨rfl, rfl, trivial⟩).1 (fun x => (xovs (L := [(11, b0, f0, s0), (7, (b0 + 8), f1, s1), (0, b2, f2, s2)]) (h := h) [(1, (7, (b0 + 8), f1, s1)), (2, (0, b2, f2, s2))] ho ⟨rfl, rfl, trivial⟩).1) (fun x hx => pX7_maySwap_ok (h := xw [(11, b0, f0, s0), (7, (b0 + 8), f1, s1), (0, b2, f2, s2)] h) (f0 := f1) (f1 := f2) (xok_sub ho [1, 2] rfl (by decide)) hq_1_0 s1 s2 a0 x hx) rfl (fun x4 _ => ?_)
      refine s_if_neB (tgt := 49) (pc := 39) dX11_swap_39 (by decide) (fun _ => ?_) (fun _ => ?_)
      · refine s_aload_n (pc := 49) 0 dX11_swap_49 rfl ?_
        refine xg_X11_25 0 ho rfl (pc := 50) dX11_swap_50 rfl ?_
        refine s_iload_n (pc := 53) 1 dX11_swap_53 rfl ?_
        refine x_callV (M := MX11_swap) (L := [(11, b0, f0, s0), (7, (b0 + 8), f1, s1), (0, b2, f2, s2)]) (h := h) (j := 1) (As := [.int a0]) (st := []) (A := fun (x : RS) => none) (Lc := [(7, (b0 + 8), f1, s1)]) (Lr := fun (x : RS) => [(7, (b0 + 8), f1, x)]) (L2 := fun (x : RS) => [(11, b0, f0, s0), (7, (b0 + 8), f1, x), (0, b2, f2, s2)]) cv_X11_367 (by decide) (pc := 54) dX11_swap_54 ho rfl xc0_7 rfl rfl (Nat.le_of_ble_eq_true rfl) (xovs (L := [(11, b0, f0, s0), (7, (b0 + 8), f1, s1), (0, b2, f2, s2)]) (h := h) [(1, (7, (b0 + 8), f1, s1))] ho ⟨rfl, trivial⟩).1 (fun x => (xovs (L := [(11, b0, f0, s0), (7, (b0 + 8), f1, s1), (0, b2, f2, s2)]) (h := h) [(1, (7, (b0 + 8), f1, x))] ho ⟨rfl, trivial⟩).1) (fun x hx => pX7_exchange_ok (h := xw [(11, b0, f0, s0), (7, (b0 + 8), f1, s1), (0, b2, f2, s2)] h) (f0 := f1) (xok_sub ho [1] rfl (by decide)) s1 a0 x hx) rfl (fun x5 _ => ?_)
        refine s_aload_n (pc := 57) 0 dX11_swap_57 rfl ?_
        refine x_callV (M := MX11_swap) (L := [(11, b0, f0, s0), (7, (b0 + 8), f1, x5), (0, b2, f2, s2)]) (h := h) (j := 0) (As := []) (st := []) (A := fun (x : Bool × RS) => some (.int (b2i x.1))) (Lc := [(11, b0, f0, s0)]) (Lr := fun (x : Bool × RS) => [(11, b0, f0, x.2)]) (L2 := fun (x : Bool × RS) => [(11, b0, f0, x.2), (7, (b0 + 8), f1, x5), (0, b2, f2, s2)]) cv_X11_102 (by decide) (pc := 58) dX11_swap_58 ho rfl xc0_11 rfl rfl (Nat.le_of_ble_eq_true rfl) (xovs (L := [(11, b0, f0, s0), (7, (b0 + 8), f1, x5), (0, b2, f2, s2)]) (h := h) [(0, (11, b0, f0, s0))] ho ⟨rfl, trivial⟩).1 (fun x => (xovs (L := [(11, b0, f0, s0), (7, (b0 + 8), f1, x5), (0, b2, f2, s2)]) (h := h) [(0, (11, b0, f0, x.2))] ho ⟨rfl, trivial⟩).1) (fun x hx => pX11_grant_ok (h := xw [(11, b0, f0, s0), (7, (b0 + 8), f1, x5), (0, b2, f2, s2)] h) (f0 := f0) (xok_sub ho [0] rfl (by decide)) s0 x hx) rfl (fun x6 _ => ?_)
        exact s_zretB (b := x6.1) (pc := 61) dX11_swap_61 rfl (fun _ _ q => q)
      · refine s_aload_n (pc := 42) 0 dX11_swap_42 rfl ?_
        refine s_bipush (v := 9) (pc := 43) dX11_swap_43 (by decide) ?_
        refine x_callV (M := MX11_swap) (L := [(11, b0, f0, s0), (7, (b0 + 8), f1, s1), (0, b2, f2, s2)]) (h := h) (j := 0) (As := [.int 9]) (st := []) (A := fun (x : Bool × RS) => some (.int (b2i x.1))) (Lc := [(11, b0, f0, s0)]) (Lr := fun (x : Bool × RS) => [(11, b0, f0, x.2)]) (L2 := fun (x : Bool × RS) => [(11, b0, f0, x.2), (7, (b0 + 8), f1, s1), (0, b2, f2, s2)]) cv_X11_95 (by decide) (pc := 45) dX11_swap_45 ho rfl xc0_11 rfl rfl (Nat.le_of_ble_eq_true rfl) (xovs (L := [(11, b0, f0, s0), (7, (b0 + 8), f1, s1), (0, b2, f2, s2)]) (h := h) [(0, (11, b0, f0, s0))] ho ⟨rfl, trivial⟩).1 (fun x => (xovs (L := [(11, b0, f0, s0), (7, (b0 + 8), f1, s1), (0, b2, f2, s2)]) (h := h) [(0, (11, b0, f0, x.2))] ho ⟨rfl, trivial⟩).1) (fun x hx => pX11_deny_ok (h := xw [(11, b0, f0, s0), (7, (b0 + 8), f1, s1), (0, b2, f2, s2)] h) (f0 := f0) (xok_sub ho [0] rfl (by decide)) s0 (9 : Int32) x hx) rfl (fun x7 _ => ?_)
        exact s_zretB (b := x7.1) (pc := 48) dX11_swap_48 rfl (fun _ _ q => q)
    · refine s_sub [0] rfl ?_
      exact X11_swap_j24_ok ho hq_1_0 s0 s1 s2
  · refine s_sub [0] rfl ?_
    exact X11_swap_j24_ok ho hq_1_0 s0 s1 s2
theorem pX11_swap_ok (ho : xok [(11, b0), (7, (b0 + 8)), (0, b2)] h.2.1) (hq_1_0 : f1 0 = some b2) (s0 : RS) (s1 : RS) (s2 : RS) (a0 : Int32) : ∀ x, pX11_swap s0 s1 s2 a0 = some x → aMet l 2 yX11_swap cX11_swap 2 (some .boolean) [.ref b0, .int a0] (xw [(11, b0, f0, s0), (7, (b0 + 8), f1, s1), (0, b2, f2, s2)] h) (some (.int (b2i x.1))) (xw [(11, b0, f0, x.2.1), (7, (b0 + 8), f1, x.2.2), (0, b2, f2, s2)] h) := fun x hx => a_meth (ini := false) (y := yX11_swap) (by decide +kernel) (fun q => by cases q) (fun _ => Nat.le_of_ble_eq_true rfl) (pX11_swap_w ho hq_1_0 s0 s1 s2 a0) x hx _ _ ⟨rfl, rfl⟩
end
section
variable {l : Launch} {n0 S0 : Nat} {h : aH} {b0 b2 : Nat} {f0 f1 f2 : Nat → Option Nat}
abbrev MX11_forward : aM := (cX11_forward, RX11, 3, (some .int), false)
def X11_forward_x41 (l : Launch) (n0 S0 : Nat) (h : aH) (b0 : Nat) (b2 : Nat) (f0 : Nat → Option Nat) (f1 : Nat → Option Nat) (f2 : Nat → Option Nat) (s0 : RS) (s2 : RS) : (Int32 × RS) → Option Value → aH → Prop := fun (x : Int32 × RS) r h' => aEv l 2 MX11_forward n0 S0 74 [(0, .ref b0), (2, .int x.1)] [] (xw [(11, b0, f0, s0), (7, (b0 + 8), f1, x.2), (0, b2, f2, s2)] h) r h'
def X11_forward_b41 (v2 : Int32) (s0 : RS) (s1 : RS) (s2 : RS) : Option ((Int32 × RS) ⊕ (Int32 × RS)) :=
  if v2 ≤ 0 then
    some (.inr (v2, s1))
  else
    (pX7_maySwap s1 s2 (v2 - (1 : Int32))).bind fun x3 =>
    if x3 = true then
      (pX7_exchange s1 (v2 - (1 : Int32))).bind fun x4 =>
      thn (v2 + (-1)) fun x5 =>
      some (.inl (x5, x4))
    else
      some (.inr (v2, s1))
theorem X11_forward_b41_ok (ho : xok [(11, b0), (7, (b0 + 8)), (0, b2)] h.2.1) (hq_1_0 : f1 0 = some b2) (v2 : Int32) (s0 : RS) (s1 : RS) (s2 : RS) : aS l 2 MX11_forward n0 S0 (a_LΦ (X11_forward_x41 l n0 S0 h b0 b2 f0 f1 f2 s0 s2) l 2 MX11_forward n0 S0 41 (fun (q : Int32 × RS) => [(0, .ref b0), (2, .int q.1)]) (fun _ => []) (fun (q : Int32 × RS) => xw [(11, b0, f0, s0), (7, (b0 + 8), f1, q.2), (0, b2, f2, s2)] h)) 41 [(0, .ref b0), (2, .int v2)] [] (xw [(11, b0, f0, s0), (7, (b0 + 8), f1, s1), (0, b2, f2, s2)] h) (X11_forward_b41 v2 s0 s1 s2) := by
  unfold X11_forward_b41
  refine s_iload_n (pc := 41) 1 dX11_forward_41 rfl ?_
  refine s_if_le (tgt := 74) (pc := 42) dX11_forward_42 (by decide) (fun _ => ?_) (fun _ => ?_)
  · exact s_ev (fun _ _ q => q)
  · refine s_aload_n (pc := 45) 0 dX11_forward_45 rfl ?_
    refine xg_X11_25 0 ho rfl (pc := 46) dX11_forward_46 rfl ?_
    refine s_iload_n (pc := 49) 1 dX11_forward_49 rfl ?_
    refine s_iconst (v := 1) (pc := 50) dX11_forward_50 (by decide) ?_
    refine s_isub (pc := 51) dX11_forward_51 ?_
    refine x_callV (M := MX11_forward) (L := [(11, b0, f0, s0), (7, (b0 + 8), f1, s1), (0, b2, f2, s2)]) (h := h) (j := 1) (As := [.int (v2 - (1 : Int32))]) (st := []) (A := fun (x : Bool) => some (.int (b2i x))) (Lc := [(7, (b0 + 8), f1, s1), (0, b2, f2, s2)]) (Lr := fun (x : Bool) => [(7, (b0 + 8), f1, s1), (0, b2, f2, s2)]) (L2 := fun (x : Bool) => [(11, b0, f0, s0), (7, (b0 + 8), f1, s1), (0, b2, f2, s2)]) cv_X11_364 (by decide) (pc := 52) dX11_forward_52 ho rfl xc0_7 rfl rfl (Nat.le_of_ble_eq_true rfl) (xovs (L := [(11, b0, f0, s0), (7, (b0 + 8), f1, s1), (0, b2, f2, s2)]) (h := h) [(1, (7, (b0 + 8), f1, s1)), (2, (0, b2, f2, s2))] ho ⟨rfl, rfl, trivial⟩).1 (fun x => (xovs (L := [(11, b0, f0, s0), (7, (b0 + 8), f1, s1), (0, b2, f2, s2)]) (h := h) [(1, (7, (b0 + 8), f1, s1)), (2, (0, b2, f2, s2))] ho ⟨rfl, rfl, trivial⟩).1) (fun x hx => pX7_maySwap_ok (h := xw [(11, b0, f0, s0), (7, (b0 + 8), f1, s1), (0, b2, f2, s2)] h) (f0 := f1) (f1 := f2) (xok_sub ho [1, 2] rfl (by decide)) hq_1_0 s1 s2 (v2 - (1 : Int32)) x hx) rfl (fun x3 _ => ?_)
    refine s_if_eqB (tgt := 74) (pc := 55) dX11_forward_55 (by decide) (fun _ => ?_) (fun _ => ?_)
    · refine s_aload_n (pc := 58) 0 dX11_forward_58 rfl ?_
      refine xg_X11_25 0 ho rfl (pc := 59) dX11_forward_59 rfl ?_
      refine s_iload_n (pc := 62) 1 dX11_forward_62 rfl ?_
      refine s_iconst (v := 1) (pc := 63) dX11_forward_63 (by decide) ?_
      refine s_isub (pc := 64) dX11_forward_64 ?_
      refine x_callV (M := MX11_forward) (L := [(11, b0, f0, s0), (7, (b0 + 8), f1, s1), (0, b2, f2, s2)]) (h := h) (j := 1) (As := [.int (v2 - (1 : Int32))]) (st := []) (A := fun (x : RS) => none) (Lc := [(7, (b0 + 8), f1, s1)]) (Lr := fun (x : RS) => [(7, (b0 + 8), f1, x)]) (L2 := fun (x : RS) => [(11, b0, f0, s0), (7, (b0 + 8), f1, x), (0, b2, f2, s2)]) cv_X11_367 (by decide) (pc := 65) dX11_forward_65 ho rfl xc0_7 rfl rfl (Nat.le_of_ble_eq_true rfl) (xovs (L := [(11, b0, f0, s0), (7, (b0 + 8), f1, s1), (0, b2, f2, s2)]) (h := h) [(1, (7, (b0 + 8), f1, s1))] ho ⟨rfl, trivial⟩).1 (fun x => (xovs (L := [(11, b0, f0, s0), (7, (b0 + 8), f1, s1), (0, b2, f2, s2)]) (h := h) [(1, (7, (b0 + 8), f1, x))] ho ⟨rfl, trivial⟩).1) (fun x hx => pX7_exchange_ok (h := xw [(11, b0, f0, s0), (7, (b0 + 8), f1, s1), (0, b2, f2, s2)] h) (f0 := f1) (xok_sub ho [1] rfl (by decide)) s1 (v2 - (1 : Int32)) x hx) rfl (fun x4 _ => ?_)
      refine s_iincT (pc := 68) 1 (lv' := fun x5 => [(2, .int x5), (0, .ref b0)]) dX11_forward_68 rfl rfl (by decide) (fun _ => rfl) (fun x5 => ?_)
      refine s_goto (tgt := 41) (pc := 71) dX11_forward_71 (by decide) ?_
      refine s_sub [1, 0] rfl ?_
      exact s_ev (fun _ _ q => q)
    · exact s_ev (fun _ _ q => q)
def X11_forward_j74 (v2 : Int32) (s0 : RS) (s1 : RS) (s2 : RS) : Option (Int32 × RS × RS) :=
  (pX11_tell s0 v2).bind fun x7 =>
  some (x7.1, x7.2, s1)
theorem X11_forward_j74_ok (ho : xok [(11, b0), (7, (b0 + 8)), (0, b2)] h.2.1) (hq_1_0 : f1 0 = some b2) (v2 : Int32) (s0 : RS) (s1 : RS) (s2 : RS) : aS l 2 MX11_forward n0 S0 (oΦ (fun (x : Int32 × RS × RS) => ((some (.int x.1)), xw [(11, b0, f0, x.2.1), (7, (b0 + 8), f1, x.2.2), (0, b2, f2, s2)] h))) 74 [(0, .ref b0), (2, .int v2)] [] (xw [(11, b0, f0, s0), (7, (b0 + 8), f1, s1), (0, b2, f2, s2)] h) (X11_forward_j74 v2 s0 s1 s2) := by
  unfold X11_forward_j74
  refine s_aload_n (pc := 74) 0 dX11_forward_74 rfl ?_
  refine s_iload_n (pc := 75) 1 dX11_forward_75 rfl ?_
  refine x_callV (M := MX11_forward) (L := [(11, b0, f0, s0), (7, (b0 + 8), f1, s1), (0, b2, f2, s2)]) (h := h) (j := 0) (As := [.int v2]) (st := []) (A := fun (x : Int32 × RS) => some (.int x.1)) (Lc := [(11, b0, f0, s0)]) (Lr := fun (x : Int32 × RS) => [(11, b0, f0, x.2)]) (L2 := fun (x : Int32 × RS) => [(11, b0, f0, x.2), (7, (b0 + 8), f1, s1), (0, b2, f2, s2)]) cv_X11_169 (by decide) (pc := 76) dX11_forward_76 ho rfl xc0_11 rfl rfl (Nat.le_of_ble_eq_true rfl) (xovs (L := [(11, b0, f0, s0), (7, (b0 + 8), f1, s1), (0, b2, f2, s2)]) (h := h) [(0, (11, b0, f0, s0))] ho ⟨rfl, trivial⟩).1 (fun x => (xovs (L := [(11, b0, f0, s0), (7, (b0 + 8), f1, s1), (0, b2, f2, s2)]) (h := h) [(0, (11, b0, f0, x.2))] ho ⟨rfl, trivial⟩).1) (fun x hx => pX11_tell_ok (h := xw [(11, b0, f0, s0), (7, (b0 + 8), f1, s1), (0, b2, f2, s2)] h) (f0 := f0) (xok_sub ho [0] rfl (by decide)) s0 v2 x hx) rfl (fun x7 _ => ?_)
  exact s_iret (pc := 79) dX11_forward_79 rfl (fun _ _ q => q)
def pX11_forward (s0 : RS) (s1 : RS) (s2 : RS) (a0 : Int32) : Option (Int32 × RS × RS) :=
  (pX0_isChange s2 a0).bind fun x1 =>
  if x1 = true then
    (pX7_placeInOrder s1 a0).bind fun x2 =>
    if x2 = (-1 : Int32) then
      (pX11_refuse s0 (8 : Int32)).bind fun x8 =>
      some (x8.1, x8.2, s1)
    else
      (a_loop (fun (q : Int32 × RS) => X11_forward_b41 q.1 s0 q.2 s2) FU (x2, s1)).bind fun (t6 : Int32 × RS) =>
        X11_forward_j74 t6.1 s0 t6.2 s2
  else
    (pX11_refuse s0 (2 : Int32)).bind fun x9 =>
    some (x9.1, x9.2, s1)
theorem pX11_forward_w (ho : xok [(11, b0), (7, (b0 + 8)), (0, b2)] h.2.1) (hq_1_0 : f1 0 = some b2) (s0 : RS) (s1 : RS) (s2 : RS) (a0 : Int32) : aS l 2 MX11_forward n0 S0 (oΦ (fun (x : Int32 × RS × RS) => ((some (.int x.1)), xw [(11, b0, f0, x.2.1), (7, (b0 + 8), f1, x.2.2), (0, b2, f2, s2)] h))) 0 [(0, .ref b0), (1, .int a0)] [] (xw [(11, b0, f0, s0), (7, (b0 + 8), f1, s1), (0, b2, f2, s2)] h) (pX11_forward s0 s1 s2 a0) := by
  unfold pX11_forward
  refine s_aload_n (pc := 0) 0 dX11_forward_0 rfl ?_
  refine xg_X11_25 0 ho rfl (pc := 1) dX11_forward_1 rfl ?_
  refine xg_X11_174 1 ho rfl (pc := 4) dX11_forward_4 rfl hq_1_0 ?_
  refine s_iload_n (pc := 7) 1 dX11_forward_7 rfl ?_
  refine x_callV (M := MX11_forward) (L := [(11, b0, f0, s0), (7, (b0 + 8), f1, s1), (0, b2, f2, s2)]) (h := h) (j := 2) (As := [.int a0]) (st := []) (A := fun (x : Bool) => some (.int (b2i x))) (Lc := [(0, b2, f2, s2)]) (Lr := fun (x : Bool) => [(0, b2, f2, s2)]) (L2 := fun (x : Bool) => [(11, b0, f0, s0), (7, (b0 + 8), f1, s1), (0, b2, f2, s2)]) cv_X11_212 (by decide) (pc := 8) dX11_forward_8 ho rfl xc0_0 rfl rfl (Nat.le_of_ble_eq_true rfl) (xovs (L := [(11, b0, f0, s0), (7, (b0 + 8), f1, s1), (0, b2, f2, s2)]) (h := h) [(2, (0, b2, f2, s2))] ho ⟨rfl, trivial⟩).1 (fun x => (xovs (L := [(11, b0, f0, s0), (7, (b0 + 8), f1, s1), (0, b2, f2, s2)]) (h := h) [(2, (0, b2, f2, s2))] ho ⟨rfl, trivial⟩).1) (fun x hx => pX0_isChange_ok (h := xw [(11, b0, f0, s0), (7, (b0 + 8), f1, s1), (0, b2, f2, s2)] h) (f0 := f2) (xok_sub ho [2] rfl (by decide)) s2 a0 x hx) rfl (fun x1 _ => ?_)
  refine s_if_neB (tgt := 20) (pc := 11) dX11_forward_11 (by decide) (fun _ => ?_) (fun _ => ?_)
  · refine s_aload_n (pc := 20) 0 dX11_forward_20 rfl ?_
    refine xg_X11_25 0 ho rfl (pc := 21) dX11_forward_21 rfl ?_
    refine s_iload_n (pc := 24) 1 dX11_forward_24 rfl ?_
    refine x_callV (M := MX11_forward) (L := [(11, b0, f0, s0), (7, (b0 + 8), f1, s1), (0, b2, f2, s2)]) (h := h) (j := 1) (As := [.int a0]) (st := []) (A := fun (x : Int32) => some (.int x)) (Lc := [(7, (b0 + 8), f1, s1)]) (Lr := fun (x : Int32) => [(7, (b0 + 8), f1, s1)]) (L2 := fun (x : Int32) => [(11, b0, f0, s0), (7, (b0 + 8), f1, s1), (0, b2, f2, s2)]) cv_X11_370 (by decide) (pc := 25) dX11_forward_25 ho rfl xc0_7 rfl rfl (Nat.le_of_ble_eq_true rfl) (xovs (L := [(11, b0, f0, s0), (7, (b0 + 8), f1, s1), (0, b2, f2, s2)]) (h := h) [(1, (7, (b0 + 8), f1, s1))] ho ⟨rfl, trivial⟩).1 (fun x => (xovs (L := [(11, b0, f0, s0), (7, (b0 + 8), f1, s1), (0, b2, f2, s2)]) (h := h) [(1, (7, (b0 + 8), f1, s1))] ho ⟨rfl, trivial⟩).1) (fun x hx => pX7_placeInOrder_ok (h := xw [(11, b0, f0, s0), (7, (b0 + 8), f1, s1), (0, b2, f2, s2)] h) (f0 := f1) (xok_sub ho [1] rfl (by decide)) s1 a0 x hx) rfl (fun x2 _ => ?_)
    refine s_istore_n (lv' := [(2, .int x2), (0, .ref b0), (1, .int a0)]) (pc := 28) dX11_forward_28 (by decide) rfl ?_
    refine s_iload_n (pc := 29) 0 dX11_forward_29 rfl ?_
    refine s_iconst (v := (-1)) (pc := 30) dX11_forward_30 (by decide) ?_
    refine s_icmp_ne (tgt := 41) (pc := 31) dX11_forward_31 (by decide) (fun _ => ?_) (fun _ => ?_)
    · refine s_aload_n (pc := 34) 1 dX11_forward_34 rfl ?_
      refine s_bipush (v := 8) (pc := 35) dX11_forward_35 (by decide) ?_
      refine x_callV (M := MX11_forward) (L := [(11, b0, f0, s0), (7, (b0 + 8), f1, s1), (0, b2, f2, s2)]) (h := h) (j := 0) (As := [.int 8]) (st := []) (A := fun (x : Int32 × RS) => some (.int x.1)) (Lc := [(11, b0, f0, s0)]) (Lr := fun (x : Int32 × RS) => [(11, b0, f0, x.2)]) (L2 := fun (x : Int32 × RS) => [(11, b0, f0, x.2), (7, (b0 + 8), f1, s1), (0, b2, f2, s2)]) cv_X11_113 (by decide) (pc := 37) dX11_forward_37 ho rfl xc0_11 rfl rfl (Nat.le_of_ble_eq_true rfl) (xovs (L := [(11, b0, f0, s0), (7, (b0 + 8), f1, s1), (0, b2, f2, s2)]) (h := h) [(0, (11, b0, f0, s0))] ho ⟨rfl, trivial⟩).1 (fun x => (xovs (L := [(11, b0, f0, s0), (7, (b0 + 8), f1, s1), (0, b2, f2, s2)]) (h := h) [(0, (11, b0, f0, x.2))] ho ⟨rfl, trivial⟩).1) (fun x hx => pX11_refuse_ok (h := xw [(11, b0, f0, s0), (7, (b0 + 8), f1, s1), (0, b2, f2, s2)] h) (f0 := f0) (xok_sub ho [0] rfl (by decide)) s0 (8 : Int32) x hx) rfl (fun x8 _ => ?_)
      exact s_iret (pc := 40) dX11_forward_40 rfl (fun _ _ q => q)
    · refine s_bind (Ψ := X11_forward_x41 l n0 S0 h b0 b2 f0 f1 f2 s0 s2) ?_ ?_
      · refine s_sub [1, 0] rfl ?_
        exact s_loop (lvf := fun (q : Int32 × RS) => [(0, .ref b0), (2, .int q.1)]) (stf := fun _ => []) (hf := fun (q : Int32 × RS) => xw [(11, b0, f0, s0), (7, (b0 + 8), f1, q.2), (0, b2, f2, s2)] h) (fun q => X11_forward_b41_ok ho hq_1_0 q.1 s0 q.2 s2) FU (x2, s1)
      · intro t6 z r h' hz hr
        refine (?_ : aS l 2 MX11_forward n0 S0 (oΦ (fun (x : Int32 × RS × RS) => ((some (.int x.1)), xw [(11, b0, f0, x.2.1), (7, (b0 + 8), f1, x.2.2), (0, b2, f2, s2)] h))) 74 [(0, .ref b0), (2, .int t6.1)] [] (xw [(11, b0, f0, s0), (7, (b0 + 8), f1, t6.2), (0, b2, f2, s2)] h) _) z hz r h' hr
        exact X11_forward_j74_ok ho hq_1_0 t6.1 s0 t6.2 s2
  · refine s_aload_n (pc := 14) 0 dX11_forward_14 rfl ?_
    refine s_iconst (v := 2) (pc := 15) dX11_forward_15 (by decide) ?_
    refine x_callV (M := MX11_forward) (L := [(11, b0, f0, s0), (7, (b0 + 8), f1, s1), (0, b2, f2, s2)]) (h := h) (j := 0) (As := [.int 2]) (st := []) (A := fun (x : Int32 × RS) => some (.int x.1)) (Lc := [(11, b0, f0, s0)]) (Lr := fun (x : Int32 × RS) => [(11, b0, f0, x.2)]) (L2 := fun (x : Int32 × RS) => [(11, b0, f0, x.2), (7, (b0 + 8), f1, s1), (0, b2, f2, s2)]) cv_X11_113 (by decide) (pc := 16) dX11_forward_16 ho rfl xc0_11 rfl rfl (Nat.le_of_ble_eq_true rfl) (xovs (L := [(11, b0, f0, s0), (7, (b0 + 8), f1, s1), (0, b2, f2, s2)]) (h := h) [(0, (11, b0, f0, s0))] ho ⟨rfl, trivial⟩).1 (fun x => (xovs (L := [(11, b0, f0, s0), (7, (b0 + 8), f1, s1), (0, b2, f2, s2)]) (h := h) [(0, (11, b0, f0, x.2))] ho ⟨rfl, trivial⟩).1) (fun x hx => pX11_refuse_ok (h := xw [(11, b0, f0, s0), (7, (b0 + 8), f1, s1), (0, b2, f2, s2)] h) (f0 := f0) (xok_sub ho [0] rfl (by decide)) s0 (2 : Int32) x hx) rfl (fun x9 _ => ?_)
    exact s_iret (pc := 19) dX11_forward_19 rfl (fun _ _ q => q)
theorem pX11_forward_ok (ho : xok [(11, b0), (7, (b0 + 8)), (0, b2)] h.2.1) (hq_1_0 : f1 0 = some b2) (s0 : RS) (s1 : RS) (s2 : RS) (a0 : Int32) : ∀ x, pX11_forward s0 s1 s2 a0 = some x → aMet l 2 yX11_forward cX11_forward 3 (some .int) [.ref b0, .int a0] (xw [(11, b0, f0, s0), (7, (b0 + 8), f1, s1), (0, b2, f2, s2)] h) (some (.int x.1)) (xw [(11, b0, f0, x.2.1), (7, (b0 + 8), f1, x.2.2), (0, b2, f2, s2)] h) := fun x hx => a_meth (ini := false) (y := yX11_forward) (by decide +kernel) (fun q => by cases q) (fun _ => Nat.le_of_ble_eq_true rfl) (pX11_forward_w ho hq_1_0 s0 s1 s2 a0) x hx _ _ ⟨rfl, rfl⟩
end
section
variable {l : Launch} {n0 S0 : Nat} {h : aH} {b0 : Nat} {f0 f1 : Nat → Option Nat}
abbrev MX11_swaps : aM := (cX11_swaps, RX11, 1, (some .int), false)
def pX11_swaps (s0 : RS) (s1 : RS) : Option (Int32 × RS) :=
  (pX7_countTurned s1).bind fun x1 =>
  (pX11_tell s0 x1).bind fun x2 =>
  some (x2.1, x2.2)
theorem pX11_swaps_w (ho : xok [(11, b0), (7, (b0 + 8))] h.2.1) (s0 : RS) (s1 : RS) : aS l 1 MX11_swaps n0 S0 (oΦ (fun (x : Int32 × RS) => ((some (.int x.1)), xw [(11, b0, f0, x.2), (7, (b0 + 8), f1, s1)] h))) 0 [(0, .ref b0)] [] (xw [(11, b0, f0, s0), (7, (b0 + 8), f1, s1)] h) (pX11_swaps s0 s1) := by
  unfold pX11_swaps
  refine s_aload_n (pc := 0) 0 dX11_swaps_0 rfl ?_
  refine s_aload_n (pc := 1) 0 dX11_swaps_1 rfl ?_
  refine xg_X11_25 0 ho rfl (pc := 2) dX11_swaps_2 rfl ?_
  refine x_callV (M := MX11_swaps) (L := [(11, b0, f0, s0), (7, (b0 + 8), f1, s1)]) (h := h) (j := 1) (As := []) (st := [.ref b0]) (A := fun (x : Int32) => some (.int x)) (Lc := [(7, (b0 + 8), f1, s1)]) (Lr := fun (x : Int32) => [(7, (b0 + 8), f1, s1)]) (L2 := fun (x : Int32) => [(11, b0, f0, s0), (7, (b0 + 8), f1, s1)]) cv_X11_373 (by decide) (pc := 5) dX11_swaps_5 ho rfl xc0_7 rfl rfl (Nat.le_of_ble_eq_true rfl) (xovs (L := [(11, b0, f0, s0), (7, (b0 + 8), f1, s1)]) (h := h) [(1, (7, (b0 + 8), f1, s1))] ho ⟨rfl, trivial⟩).1 (fun x => (xovs (L := [(11, b0, f0, s0), (7, (b0 + 8), f1, s1)]) (h := h) [(1, (7, (b0 + 8), f1, s1))] ho ⟨rfl, trivial⟩).1) (fun x hx => pX7_countTurned_ok (h := xw [(11, b0, f0, s0), (7, (b0 + 8), f1, s1)] h) (f0 := f1) (xok_sub ho [1] rfl (by decide)) s1 x hx) rfl (fun x1 _ => ?_)
  refine x_callV (M := MX11_swaps) (L := [(11, b0, f0, s0), (7, (b0 + 8), f1, s1)]) (h := h) (j := 0) (As := [.int x1]) (st := []) (A := fun (x : Int32 × RS) => some (.int x.1)) (Lc := [(11, b0, f0, s0)]) (Lr := fun (x : Int32 × RS) => [(11, b0, f0, x.2)]) (L2 := fun (x : Int32 × RS) => [(11, b0, f0, x.2), (7, (b0 + 8), f1, s1)]) cv_X11_169 (by decide) (pc := 8) dX11_swaps_8 ho rfl xc0_11 rfl rfl (Nat.le_of_ble_eq_true rfl) (xovs (L := [(11, b0, f0, s0), (7, (b0 + 8), f1, s1)]) (h := h) [(0, (11, b0, f0, s0))] ho ⟨rfl, trivial⟩).1 (fun x => (xovs (L := [(11, b0, f0, s0), (7, (b0 + 8), f1, s1)]) (h := h) [(0, (11, b0, f0, x.2))] ho ⟨rfl, trivial⟩).1) (fun x hx => pX11_tell_ok (h := xw [(11, b0, f0, s0), (7, (b0 + 8), f1, s1)] h) (f0 := f0) (xok_sub ho [0] rfl (by decide)) s0 x1 x hx) rfl (fun x2 _ => ?_)
  exact s_iret (pc := 11) dX11_swaps_11 rfl (fun _ _ q => q)
theorem pX11_swaps_ok (ho : xok [(11, b0), (7, (b0 + 8))] h.2.1) (s0 : RS) (s1 : RS) : ∀ x, pX11_swaps s0 s1 = some x → aMet l 1 yX11_swaps cX11_swaps 1 (some .int) [.ref b0] (xw [(11, b0, f0, s0), (7, (b0 + 8), f1, s1)] h) (some (.int x.1)) (xw [(11, b0, f0, x.2), (7, (b0 + 8), f1, s1)] h) := fun x hx => a_meth (ini := false) (y := yX11_swaps) (by decide +kernel) (fun q => by cases q) (fun _ => Nat.le_of_ble_eq_true rfl) (pX11_swaps_w ho s0 s1) x hx _ _ ⟨rfl, rfl⟩
end
section
variable {l : Launch} {n0 S0 : Nat} {h : aH} {b0 b2 : Nat} {f0 f1 f2 : Nat → Option Nat}
abbrev MX11_has : aM := (cX11_has, RX11, 2, (some .int), false)
def pX11_has (s0 : RS) (s1 : RS) (s2 : RS) (a0 : Int32) : Option (Int32 × RS) :=
  (pX0_isIsland s2 a0).bind fun x1 =>
  if x1 = true then
    g_in a0 4 (
    (pX11_tell s0 (s1.2.2.1 2 a0.toNatClampNeg)).bind fun x3 =>
    some (x3.1, x3.2))
  else
    (pX11_refuse s0 (2 : Int32)).bind fun x2 =>
    some (x2.1, x2.2)
theorem pX11_has_w (ho : xok [(11, b0), (7, (b0 + 8)), (0, b2)] h.2.1) (hq_1_0 : f1 0 = some b2) (s0 : RS) (s1 : RS) (s2 : RS) (a0 : Int32) : aS l 1 MX11_has n0 S0 (oΦ (fun (x : Int32 × RS) => ((some (.int x.1)), xw [(11, b0, f0, x.2), (7, (b0 + 8), f1, s1), (0, b2, f2, s2)] h))) 0 [(0, .ref b0), (1, .int a0)] [] (xw [(11, b0, f0, s0), (7, (b0 + 8), f1, s1), (0, b2, f2, s2)] h) (pX11_has s0 s1 s2 a0) := by
  unfold pX11_has
  refine s_aload_n (pc := 0) 0 dX11_has_0 rfl ?_
  refine xg_X11_25 0 ho rfl (pc := 1) dX11_has_1 rfl ?_
  refine xg_X11_174 1 ho rfl (pc := 4) dX11_has_4 rfl hq_1_0 ?_
  refine s_iload_n (pc := 7) 1 dX11_has_7 rfl ?_
  refine x_callV (M := MX11_has) (L := [(11, b0, f0, s0), (7, (b0 + 8), f1, s1), (0, b2, f2, s2)]) (h := h) (j := 2) (As := [.int a0]) (st := []) (A := fun (x : Bool) => some (.int (b2i x))) (Lc := [(0, b2, f2, s2)]) (Lr := fun (x : Bool) => [(0, b2, f2, s2)]) (L2 := fun (x : Bool) => [(11, b0, f0, s0), (7, (b0 + 8), f1, s1), (0, b2, f2, s2)]) cv_X11_376 (by decide) (pc := 8) dX11_has_8 ho rfl xc0_0 rfl rfl (Nat.le_of_ble_eq_true rfl) (xovs (L := [(11, b0, f0, s0), (7, (b0 + 8), f1, s1), (0, b2, f2, s2)]) (h := h) [(2, (0, b2, f2, s2))] ho ⟨rfl, trivial⟩).1 (fun x => (xovs (L := [(11, b0, f0, s0), (7, (b0 + 8), f1, s1), (0, b2, f2, s2)]) (h := h) [(2, (0, b2, f2, s2))] ho ⟨rfl, trivial⟩).1) (fun x hx => pX0_isIsland_ok (h := xw [(11, b0, f0, s0), (7, (b0 + 8), f1, s1), (0, b2, f2, s2)] h) (f0 := f2) (xok_sub ho [2] rfl (by decide)) s2 a0 x hx) rfl (fun x1 _ => ?_)
  refine s_if_eqB (tgt := 30) (pc := 11) dX11_has_11 (by decide) (fun _ => ?_) (fun _ => ?_)
  · refine s_aload_n (pc := 14) 0 dX11_has_14 rfl ?_
    refine s_aload_n (pc := 15) 0 dX11_has_15 rfl ?_
    refine xg_X11_25 0 ho rfl (pc := 16) dX11_has_16 rfl ?_
    refine xg_X11_379 1 ho rfl (pc := 19) dX11_has_19 rfl ?_
    refine s_iload_n (pc := 22) 1 dX11_has_22 rfl ?_
    refine xl_7_2 1 ho rfl (pc := 23) dX11_has_23 ?_
    refine x_callV (M := MX11_has) (L := [(11, b0, f0, s0), (7, (b0 + 8), f1, s1), (0, b2, f2, s2)]) (h := h) (j := 0) (As := [.int (s1.2.2.1 2 a0.toNatClampNeg)]) (st := []) (A := fun (x : Int32 × RS) => some (.int x.1)) (Lc := [(11, b0, f0, s0)]) (Lr := fun (x : Int32 × RS) => [(11, b0, f0, x.2)]) (L2 := fun (x : Int32 × RS) => [(11, b0, f0, x.2), (7, (b0 + 8), f1, s1), (0, b2, f2, s2)]) cv_X11_169 (by decide) (pc := 24) dX11_has_24 ho rfl xc0_11 rfl rfl (Nat.le_of_ble_eq_true rfl) (xovs (L := [(11, b0, f0, s0), (7, (b0 + 8), f1, s1), (0, b2, f2, s2)]) (h := h) [(0, (11, b0, f0, s0))] ho ⟨rfl, trivial⟩).1 (fun x => (xovs (L := [(11, b0, f0, s0), (7, (b0 + 8), f1, s1), (0, b2, f2, s2)]) (h := h) [(0, (11, b0, f0, x.2))] ho ⟨rfl, trivial⟩).1) (fun x hx => pX11_tell_ok (h := xw [(11, b0, f0, s0), (7, (b0 + 8), f1, s1), (0, b2, f2, s2)] h) (f0 := f0) (xok_sub ho [0] rfl (by decide)) s0 (s1.2.2.1 2 a0.toNatClampNeg) x hx) rfl (fun x3 _ => ?_)
    refine s_goto (tgt := 35) (pc := 27) dX11_has_27 (by decide) ?_
    exact s_iret (pc := 35) dX11_has_35 rfl (fun _ _ q => q)
  · refine s_aload_n (pc := 30) 0 dX11_has_30 rfl ?_
    refine s_iconst (v := 2) (pc := 31) dX11_has_31 (by decide) ?_
    refine x_callV (M := MX11_has) (L := [(11, b0, f0, s0), (7, (b0 + 8), f1, s1), (0, b2, f2, s2)]) (h := h) (j := 0) (As := [.int 2]) (st := []) (A := fun (x : Int32 × RS) => some (.int x.1)) (Lc := [(11, b0, f0, s0)]) (Lr := fun (x : Int32 × RS) => [(11, b0, f0, x.2)]) (L2 := fun (x : Int32 × RS) => [(11, b0, f0, x.2), (7, (b0 + 8), f1, s1), (0, b2, f2, s2)]) cv_X11_113 (by decide) (pc := 32) dX11_has_32 ho rfl xc0_11 rfl rfl (Nat.le_of_ble_eq_true rfl) (xovs (L := [(11, b0, f0, s0), (7, (b0 + 8), f1, s1), (0, b2, f2, s2)]) (h := h) [(0, (11, b0, f0, s0))] ho ⟨rfl, trivial⟩).1 (fun x => (xovs (L := [(11, b0, f0, s0), (7, (b0 + 8), f1, s1), (0, b2, f2, s2)]) (h := h) [(0, (11, b0, f0, x.2))] ho ⟨rfl, trivial⟩).1) (fun x hx => pX11_refuse_ok (h := xw [(11, b0, f0, s0), (7, (b0 + 8), f1, s1), (0, b2, f2, s2)] h) (f0 := f0) (xok_sub ho [0] rfl (by decide)) s0 (2 : Int32) x hx) rfl (fun x2 _ => ?_)
    exact s_iret (pc := 35) dX11_has_35 rfl (fun _ _ q => q)
theorem pX11_has_ok (ho : xok [(11, b0), (7, (b0 + 8)), (0, b2)] h.2.1) (hq_1_0 : f1 0 = some b2) (s0 : RS) (s1 : RS) (s2 : RS) (a0 : Int32) : ∀ x, pX11_has s0 s1 s2 a0 = some x → aMet l 1 yX11_has cX11_has 2 (some .int) [.ref b0, .int a0] (xw [(11, b0, f0, s0), (7, (b0 + 8), f1, s1), (0, b2, f2, s2)] h) (some (.int x.1)) (xw [(11, b0, f0, x.2), (7, (b0 + 8), f1, s1), (0, b2, f2, s2)] h) := fun x hx => a_meth (ini := false) (y := yX11_has) (by decide +kernel) (fun q => by cases q) (fun _ => Nat.le_of_ble_eq_true rfl) (pX11_has_w ho hq_1_0 s0 s1 s2 a0) x hx _ _ ⟨rfl, rfl⟩
end
section
variable {l : Launch} {n0 S0 : Nat} {h : aH} {b0 b2 : Nat} {f0 f1 f2 : Nat → Option Nat}
abbrev MX11_give : aM := (cX11_give, RX11, 3, (some .boolean), false)
def X11_give_j28 (s0 : RS) (s1 : RS) (s2 : RS) : Option (Bool × RS × RS) :=
  (pX11_deny s0 (2 : Int32)).bind fun x2 =>
  some (x2.1, x2.2, s1)
theorem X11_give_j28_ok (ho : xok [(11, b0), (7, (b0 + 8)), (0, b2)] h.2.1) (hq_1_0 : f1 0 = some b2) (s0 : RS) (s1 : RS) (s2 : RS) : aS l 3 MX11_give n0 S0 (oΦ (fun (x : Bool × RS × RS) => ((some (.int (b2i x.1))), xw [(11, b0, f0, x.2.1), (7, (b0 + 8), f1, x.2.2), (0, b2, f2, s2)] h))) 28 [(0, .ref b0)] [] (xw [(11, b0, f0, s0), (7, (b0 + 8), f1, s1), (0, b2, f2, s2)] h) (X11_give_j28 s0 s1 s2) := by
  unfold X11_give_j28
  refine s_aload_n (pc := 28) 0 dX11_give_28 rfl ?_
  refine s_iconst (v := 2) (pc := 29) dX11_give_29 (by decide) ?_
  refine x_callV (M := MX11_give) (L := [(11, b0, f0, s0), (7, (b0 + 8), f1, s1), (0, b2, f2, s2)]) (h := h) (j := 0) (As := [.int 2]) (st := []) (A := fun (x : Bool × RS) => some (.int (b2i x.1))) (Lc := [(11, b0, f0, s0)]) (Lr := fun (x : Bool × RS) => [(11, b0, f0, x.2)]) (L2 := fun (x : Bool × RS) => [(11, b0, f0, x.2), (7, (b0 + 8), f1, s1), (0, b2, f2, s2)]) cv_X11_95 (by decide) (pc := 30) dX11_give_30 ho rfl xc0_11 rfl rfl (Nat.le_of_ble_eq_true rfl) (xovs (L := [(11, b0, f0, s0), (7, (b0 + 8), f1, s1), (0, b2, f2, s2)]) (h := h) [(0, (11, b0, f0, s0))] ho ⟨rfl, trivial⟩).1 (fun x => (xovs (L := [(11, b0, f0, s0), (7, (b0 + 8), f1, s1), (0, b2, f2, s2)]) (h := h) [(0, (11, b0, f0, x.2))] ho ⟨rfl, trivial⟩).1) (fun x hx => pX11_deny_ok (h := xw [(11, b0, f0, s0), (7, (b0 + 8), f1, s1), (0, b2, f2, s2)] h) (f0 := f0) (xok_sub ho [0] rfl (by decide)) s0 (2 : Int32) x hx) rfl (fun x2 _ => ?_)
  exact s_zretB (b := x2.1) (pc := 33) dX11_give_33 rfl (fun _ _ q => q)
def pX11_give (s0 : RS) (s1 : RS) (s2 : RS) (a0 : Int32) (a1 : Int32) : Option (Bool × RS × RS) :=
  (pX0_isIsland s2 a0).bind fun x1 =>
  if x1 = true then
    (pX0_isSet s2 a1).bind fun x3 =>
    if x3 = true then
      (pX0_isClosed s2 a1).bind fun x4 =>
      if x4 = true then
        g_in a0 4 (thn (uA s1 2 (upd (s1.2.2.1 2) a0.toNatClampNeg a1)) fun s_5 =>
        (pX11_grant s0).bind fun x6 =>
        some (x6.1, x6.2, s_5))
      else
        (pX11_deny s0 (9 : Int32)).bind fun x7 =>
        some (x7.1, x7.2, s1)
    else
      X11_give_j28 s0 s1 s2
  else
    X11_give_j28 s0 s1 s2
theorem pX11_give_w (ho : xok [(11, b0), (7, (b0 + 8)), (0, b2)] h.2.1) (hq_1_0 : f1 0 = some b2) (s0 : RS) (s1 : RS) (s2 : RS) (a0 : Int32) (a1 : Int32) : aS l 3 MX11_give n0 S0 (oΦ (fun (x : Bool × RS × RS) => ((some (.int (b2i x.1))), xw [(11, b0, f0, x.2.1), (7, (b0 + 8), f1, x.2.2), (0, b2, f2, s2)] h))) 0 [(0, .ref b0), (1, .int a0), (2, .int a1)] [] (xw [(11, b0, f0, s0), (7, (b0 + 8), f1, s1), (0, b2, f2, s2)] h) (pX11_give s0 s1 s2 a0 a1) := by
  unfold pX11_give
  refine s_aload_n (pc := 0) 0 dX11_give_0 rfl ?_
  refine xg_X11_25 0 ho rfl (pc := 1) dX11_give_1 rfl ?_
  refine xg_X11_174 1 ho rfl (pc := 4) dX11_give_4 rfl hq_1_0 ?_
  refine s_iload_n (pc := 7) 1 dX11_give_7 rfl ?_
  refine x_callV (M := MX11_give) (L := [(11, b0, f0, s0), (7, (b0 + 8), f1, s1), (0, b2, f2, s2)]) (h := h) (j := 2) (As := [.int a0]) (st := []) (A := fun (x : Bool) => some (.int (b2i x))) (Lc := [(0, b2, f2, s2)]) (Lr := fun (x : Bool) => [(0, b2, f2, s2)]) (L2 := fun (x : Bool) => [(11, b0, f0, s0), (7, (b0 + 8), f1, s1), (0, b2, f2, s2)]) cv_X11_376 (by decide) (pc := 8) dX11_give_8 ho rfl xc0_0 rfl rfl (Nat.le_of_ble_eq_true rfl) (xovs (L := [(11, b0, f0, s0), (7, (b0 + 8), f1, s1), (0, b2, f2, s2)]) (h := h) [(2, (0, b2, f2, s2))] ho ⟨rfl, trivial⟩).1 (fun x => (xovs (L := [(11, b0, f0, s0), (7, (b0 + 8), f1, s1), (0, b2, f2, s2)]) (h := h) [(2, (0, b2, f2, s2))] ho ⟨rfl, trivial⟩).1) (fun x hx => pX0_isIsland_ok (h := xw [(11, b0, f0, s0), (7, (b0 + 8), f1, s1), (0, b2, f2, s2)] h) (f0 := f2) (xok_sub ho [2] rfl (by decide)) s2 a0 x hx) rfl (fun x1 _ => ?_)
  refine s_if_eqB (tgt := 28) (pc := 11) dX11_give_11 (by decide) (fun _ => ?_) (fun _ => ?_)
  · refine s_aload_n (pc := 14) 0 dX11_give_14 rfl ?_
    refine xg_X11_25 0 ho rfl (pc := 15) dX11_give_15 rfl ?_
    refine xg_X11_174 1 ho rfl (pc := 18) dX11_give_18 rfl hq_1_0 ?_
    refine s_iload_n (pc := 21) 2 dX11_give_21 rfl ?_
    refine x_callV (M := MX11_give) (L := [(11, b0, f0, s0), (7, (b0 + 8), f1, s1), (0, b2, f2, s2)]) (h := h) (j := 2) (As := [.int a1]) (st := []) (A := fun (x : Bool) => some (.int (b2i x))) (Lc := [(0, b2, f2, s2)]) (Lr := fun (x : Bool) => [(0, b2, f2, s2)]) (L2 := fun (x : Bool) => [(11, b0, f0, s0), (7, (b0 + 8), f1, s1), (0, b2, f2, s2)]) cv_X11_241 (by decide) (pc := 22) dX11_give_22 ho rfl xc0_0 rfl rfl (Nat.le_of_ble_eq_true rfl) (xovs (L := [(11, b0, f0, s0), (7, (b0 + 8), f1, s1), (0, b2, f2, s2)]) (h := h) [(2, (0, b2, f2, s2))] ho ⟨rfl, trivial⟩).1 (fun x => (xovs (L := [(11, b0, f0, s0), (7, (b0 + 8), f1, s1), (0, b2, f2, s2)]) (h := h) [(2, (0, b2, f2, s2))] ho ⟨rfl, trivial⟩).1) (fun x hx => pX0_isSet_ok (h := xw [(11, b0, f0, s0), (7, (b0 + 8), f1, s1), (0, b2, f2, s2)] h) (f0 := f2) (xok_sub ho [2] rfl (by decide)) s2 a1 x hx) rfl (fun x3 _ => ?_)
    refine s_if_neB (tgt := 34) (pc := 25) dX11_give_25 (by decide) (fun _ => ?_) (fun _ => ?_)
    · refine s_aload_n (pc := 34) 0 dX11_give_34 rfl ?_
      refine xg_X11_25 0 ho rfl (pc := 35) dX11_give_35 rfl ?_
      refine xg_X11_174 1 ho rfl (pc := 38) dX11_give_38 rfl hq_1_0 ?_
      refine s_iload_n (pc := 41) 2 dX11_give_41 rfl ?_
      refine x_callV (M := MX11_give) (L := [(11, b0, f0, s0), (7, (b0 + 8), f1, s1), (0, b2, f2, s2)]) (h := h) (j := 2) (As := [.int a1]) (st := []) (A := fun (x : Bool) => some (.int (b2i x))) (Lc := [(0, b2, f2, s2)]) (Lr := fun (x : Bool) => [(0, b2, f2, s2)]) (L2 := fun (x : Bool) => [(11, b0, f0, s0), (7, (b0 + 8), f1, s1), (0, b2, f2, s2)]) cv_X11_244 (by decide) (pc := 42) dX11_give_42 ho rfl xc0_0 rfl rfl (Nat.le_of_ble_eq_true rfl) (xovs (L := [(11, b0, f0, s0), (7, (b0 + 8), f1, s1), (0, b2, f2, s2)]) (h := h) [(2, (0, b2, f2, s2))] ho ⟨rfl, trivial⟩).1 (fun x => (xovs (L := [(11, b0, f0, s0), (7, (b0 + 8), f1, s1), (0, b2, f2, s2)]) (h := h) [(2, (0, b2, f2, s2))] ho ⟨rfl, trivial⟩).1) (fun x hx => pX0_isClosed_ok (h := xw [(11, b0, f0, s0), (7, (b0 + 8), f1, s1), (0, b2, f2, s2)] h) (f0 := f2) (xok_sub ho [2] rfl (by decide)) s2 a1 x hx) rfl (fun x4 _ => ?_)
      refine s_if_neB (tgt := 55) (pc := 45) dX11_give_45 (by decide) (fun _ => ?_) (fun _ => ?_)
      · refine s_aload_n (pc := 55) 0 dX11_give_55 rfl ?_
        refine xg_X11_25 0 ho rfl (pc := 56) dX11_give_56 rfl ?_
        refine xg_X11_379 1 ho rfl (pc := 59) dX11_give_59 rfl ?_
        refine s_iload_n (pc := 62) 1 dX11_give_62 rfl ?_
        refine s_iload_n (pc := 63) 2 dX11_give_63 rfl ?_
        refine xs_7_2 (L' := fun s_5 => [(11, b0, f0, s0), (7, (b0 + 8), f1, s_5), (0, b2, f2, s2)]) 1 ho rfl (fun _ => rfl) (pc := 64) dX11_give_64 (fun s_5 => ?_)
        refine s_aload_n (pc := 65) 0 dX11_give_65 rfl ?_
        refine x_callV (M := MX11_give) (L := [(11, b0, f0, s0), (7, (b0 + 8), f1, s_5), (0, b2, f2, s2)]) (h := h) (j := 0) (As := []) (st := []) (A := fun (x : Bool × RS) => some (.int (b2i x.1))) (Lc := [(11, b0, f0, s0)]) (Lr := fun (x : Bool × RS) => [(11, b0, f0, x.2)]) (L2 := fun (x : Bool × RS) => [(11, b0, f0, x.2), (7, (b0 + 8), f1, s_5), (0, b2, f2, s2)]) cv_X11_102 (by decide) (pc := 66) dX11_give_66 ho rfl xc0_11 rfl rfl (Nat.le_of_ble_eq_true rfl) (xovs (L := [(11, b0, f0, s0), (7, (b0 + 8), f1, s_5), (0, b2, f2, s2)]) (h := h) [(0, (11, b0, f0, s0))] ho ⟨rfl, trivial⟩).1 (fun x => (xovs (L := [(11, b0, f0, s0), (7, (b0 + 8), f1, s_5), (0, b2, f2, s2)]) (h := h) [(0, (11, b0, f0, x.2))] ho ⟨rfl, trivial⟩).1) (fun x hx => pX11_grant_ok (h := xw [(11, b0, f0, s0), (7, (b0 + 8), f1, s_5), (0, b2, f2, s2)] h) (f0 := f0) (xok_sub ho [0] rfl (by decide)) s0 x hx) rfl (fun x6 _ => ?_)
        exact s_zretB (b := x6.1) (pc := 69) dX11_give_69 rfl (fun _ _ q => q)
      · refine s_aload_n (pc := 48) 0 dX11_give_48 rfl ?_
        refine s_bipush (v := 9) (pc := 49) dX11_give_49 (by decide) ?_
        refine x_callV (M := MX11_give) (L := [(11, b0, f0, s0), (7, (b0 + 8), f1, s1), (0, b2, f2, s2)]) (h := h) (j := 0) (As := [.int 9]) (st := []) (A := fun (x : Bool × RS) => some (.int (b2i x.1))) (Lc := [(11, b0, f0, s0)]) (Lr := fun (x : Bool × RS) => [(11, b0, f0, x.2)]) (L2 := fun (x : Bool × RS) => [(11, b0, f0, x.2), (7, (b0 + 8), f1, s1), (0, b2, f2, s2)]) cv_X11_95 (by decide) (pc := 51) dX11_give_51 ho rfl xc0_11 rfl rfl (Nat.le_of_ble_eq_true rfl) (xovs (L := [(11, b0, f0, s0), (7, (b0 + 8), f1, s1), (0, b2, f2, s2)]) (h := h) [(0, (11, b0, f0, s0))] ho ⟨rfl, trivial⟩).1 (fun x => (xovs (L := [(11, b0, f0, s0), (7, (b0 + 8), f1, s1), (0, b2, f2, s2)]) (h := h) [(0, (11, b0, f0, x.2))] ho ⟨rfl, trivial⟩).1) (fun x hx => pX11_deny_ok (h := xw [(11, b0, f0, s0), (7, (b0 + 8), f1, s1), (0, b2, f2, s2)] h) (f0 := f0) (xok_sub ho [0] rfl (by decide)) s0 (9 : Int32) x hx) rfl (fun x7 _ => ?_)
        exact s_zretB (b := x7.1) (pc := 54) dX11_give_54 rfl (fun _ _ q => q)
    · refine s_sub [0] rfl ?_
      exact X11_give_j28_ok ho hq_1_0 s0 s1 s2
  · refine s_sub [0] rfl ?_
    exact X11_give_j28_ok ho hq_1_0 s0 s1 s2
theorem pX11_give_ok (ho : xok [(11, b0), (7, (b0 + 8)), (0, b2)] h.2.1) (hq_1_0 : f1 0 = some b2) (s0 : RS) (s1 : RS) (s2 : RS) (a0 : Int32) (a1 : Int32) : ∀ x, pX11_give s0 s1 s2 a0 a1 = some x → aMet l 3 yX11_give cX11_give 3 (some .boolean) [.ref b0, .int a0, .int a1] (xw [(11, b0, f0, s0), (7, (b0 + 8), f1, s1), (0, b2, f2, s2)] h) (some (.int (b2i x.1))) (xw [(11, b0, f0, x.2.1), (7, (b0 + 8), f1, x.2.2), (0, b2, f2, s2)] h) := fun x hx => a_meth (ini := false) (y := yX11_give) (by decide +kernel) (fun q => by cases q) (fun _ => Nat.le_of_ble_eq_true rfl) (pX11_give_w ho hq_1_0 s0 s1 s2 a0 a1) x hx _ _ ⟨rfl, rfl⟩
end
section
variable {l : Launch} {n0 S0 : Nat} {h : aH} {b0 b2 b3 : Nat} {f0 f1 f2 f3 f4 : Nat → Option Nat}
abbrev MX11_sail : aM := (cX11_sail, RX11, 3, (some .int), false)
def X11_sail_j11 (s0 : RS) (s1 : RS) (s2 : RS) (s3 : RS) (s4 : RS) (b0 : Nat) (b2 : Nat) (b3 : Nat) (f4 : Nat → Option Nat) : Option (Int32 × RS × RS × RS × (Nat → Option Nat)) :=
  (pX11_refuse s0 (5 : Int32)).bind fun x1 =>
  some (x1.1, x1.2, s1, s4, f4)
theorem X11_sail_j11_ok (ho : xok [(11, b0), (7, (b0 + 8)), (0, b2), (3, b3), (10, (b0 + 50))] h.2.1) (hq_1_0 : f1 0 = some b2) (hq_1_1 : f1 1 = some b3) (s0 : RS) (s1 : RS) (s2 : RS) (s3 : RS) (s4 : RS) : aS l 6 MX11_sail n0 S0 (oΦ (fun (x : Int32 × RS × RS × RS × (Nat → Option Nat)) => ((some (.int x.1)), xw [(11, b0, f0, x.2.1), (7, (b0 + 8), f1, x.2.2.1), (0, b2, f2, s2), (3, b3, f3, s3), (10, (b0 + 50), x.2.2.2.2, x.2.2.2.1)] h))) 11 [(0, .ref b0)] [] (xw [(11, b0, f0, s0), (7, (b0 + 8), f1, s1), (0, b2, f2, s2), (3, b3, f3, s3), (10, (b0 + 50), f4, s4)] h) (X11_sail_j11 s0 s1 s2 s3 s4 b0 b2 b3 f4) := by
  unfold X11_sail_j11
  refine s_aload_n (pc := 11) 0 dX11_sail_11 rfl ?_
  refine s_iconst (v := 5) (pc := 12) dX11_sail_12 (by decide) ?_
  refine x_callV (M := MX11_sail) (L := [(11, b0, f0, s0), (7, (b0 + 8), f1, s1), (0, b2, f2, s2), (3, b3, f3, s3), (10, (b0 + 50), f4, s4)]) (h := h) (j := 0) (As := [.int 5]) (st := []) (A := fun (x : Int32 × RS) => some (.int x.1)) (Lc := [(11, b0, f0, s0)]) (Lr := fun (x : Int32 × RS) => [(11, b0, f0, x.2)]) (L2 := fun (x : Int32 × RS) => [(11, b0, f0, x.2), (7, (b0 + 8), f1, s1), (0, b2, f2, s2), (3, b3, f3, s3), (10, (b0 + 50), f4, s4)]) cv_X11_113 (by decide) (pc := 13) dX11_sail_13 ho rfl xc0_11 rfl rfl (Nat.le_of_ble_eq_true rfl) (xovs (L := [(11, b0, f0, s0), (7, (b0 + 8), f1, s1), (0, b2, f2, s2), (3, b3, f3, s3), (10, (b0 + 50), f4, s4)]) (h := h) [(0, (11, b0, f0, s0))] ho ⟨rfl, trivial⟩).1 (fun x => (xovs (L := [(11, b0, f0, s0), (7, (b0 + 8), f1, s1), (0, b2, f2, s2), (3, b3, f3, s3), (10, (b0 + 50), f4, s4)]) (h := h) [(0, (11, b0, f0, x.2))] ho ⟨rfl, trivial⟩).1) (fun x hx => pX11_refuse_ok (h := xw [(11, b0, f0, s0), (7, (b0 + 8), f1, s1), (0, b2, f2, s2), (3, b3, f3, s3), (10, (b0 + 50), f4, s4)] h) (f0 := f0) (xok_sub ho [0] rfl (by decide)) s0 (5 : Int32) x hx) rfl (fun x1 _ => ?_)
  exact s_iret (pc := 16) dX11_sail_16 rfl (fun _ _ q => q)
def pX11_sail (s0 : RS) (s1 : RS) (s2 : RS) (s3 : RS) (s4 : RS) (b0 : Nat) (b2 : Nat) (b3 : Nat) (f4 : Nat → Option Nat) (a0 : Int32) : Option (Int32 × RS × RS × RS × (Nat → Option Nat)) :=
  if a0 < 0 then
    X11_sail_j11 s0 s1 s2 s3 s4 b0 b2 b3 f4
  else
    if a0 ≤ (9999 : Int32) then
      (pX10_run s4 s2 s3 s1 a0).bind fun x2 =>
      g_cp (0 : Int32) (0 : Int32) (4 : Int32) 4 4 (thn (uA s1 2 (va_cpy (x2.2.2.1 0) (s1.2.2.1 2) (0 : Int32).toNatClampNeg (0 : Int32).toNatClampNeg (4 : Int32).toNatClampNeg)) fun s_3 =>
      g_in (0 : Int32) 5 (thn (uA s0 8 (upd (s0.2.2.1 8) (0 : Int32).toNatClampNeg (x2.1 2))) fun s_4 =>
      g_in (1 : Int32) 5 (thn (uA s_4 8 (upd (s_4.2.2.1 8) (1 : Int32).toNatClampNeg (x2.1 3))) fun s_5 =>
      g_in (2 : Int32) 5 (thn (uA s_5 8 (upd (s_5.2.2.1 8) (2 : Int32).toNatClampNeg (x2.1 4))) fun s_6 =>
      g_in (3 : Int32) 5 (thn (uA s_6 8 (upd (s_6.2.2.1 8) (3 : Int32).toNatClampNeg (x2.1 5))) fun s_7 =>
      g_in (4 : Int32) 5 (thn (uA s_7 8 (upd (s_7.2.2.1 8) (4 : Int32).toNatClampNeg (x2.1 6))) fun s_8 =>
      thn (uI s_8 9 (1 : Int32)) fun s_9 =>
      (pX11_tell s_9 (x2.1 1)).bind fun x10 =>
      some (x10.1, x10.2, s_3, x2, (va_up (va_up f4 7 (some b2)) 8 (some b3)))))))))
    else
      X11_sail_j11 s0 s1 s2 s3 s4 b0 b2 b3 f4
theorem pX11_sail_w (ho : xok [(11, b0), (7, (b0 + 8)), (0, b2), (3, b3), (10, (b0 + 50))] h.2.1) (hq_1_0 : f1 0 = some b2) (hq_1_1 : f1 1 = some b3) (s0 : RS) (s1 : RS) (s2 : RS) (s3 : RS) (s4 : RS) (a0 : Int32) : aS l 6 MX11_sail n0 S0 (oΦ (fun (x : Int32 × RS × RS × RS × (Nat → Option Nat)) => ((some (.int x.1)), xw [(11, b0, f0, x.2.1), (7, (b0 + 8), f1, x.2.2.1), (0, b2, f2, s2), (3, b3, f3, s3), (10, (b0 + 50), x.2.2.2.2, x.2.2.2.1)] h))) 0 [(0, .ref b0), (1, .int a0)] [] (xw [(11, b0, f0, s0), (7, (b0 + 8), f1, s1), (0, b2, f2, s2), (3, b3, f3, s3), (10, (b0 + 50), f4, s4)] h) (pX11_sail s0 s1 s2 s3 s4 b0 b2 b3 f4 a0) := by
  unfold pX11_sail
  refine s_iload_n (pc := 0) 1 dX11_sail_0 rfl ?_
  refine s_if_lt (tgt := 11) (pc := 1) dX11_sail_1 (by decide) (fun _ => ?_) (fun _ => ?_)
  · refine s_sub [0] rfl ?_
    exact X11_sail_j11_ok ho hq_1_0 hq_1_1 s0 s1 s2 s3 s4
  · refine s_iload_n (pc := 4) 1 dX11_sail_4 rfl ?_
    refine s_sipush (v := 9999) (pc := 5) dX11_sail_5 (by decide) ?_
    refine s_icmp_le (tgt := 17) (pc := 8) dX11_sail_8 (by decide) (fun _ => ?_) (fun _ => ?_)
    · refine s_aload_n (pc := 17) 0 dX11_sail_17 rfl ?_
      refine xg_X11_25 0 ho rfl (pc := 18) dX11_sail_18 rfl ?_
      refine xg_X11_185 1 ho rfl (pc := 21) dX11_sail_21 rfl hq_1_1 ?_
      refine s_astore_n (lv' := [(2, .ref b3), (0, .ref b0), (1, .int a0)]) (pc := 24) dX11_sail_24 (by decide) rfl ?_
      refine s_aload_n (pc := 25) 0 dX11_sail_25 rfl ?_
      refine s_refJ (tgt := 36) (pc := 26) dX11_sail_26 (by decide) ?_
      refine s_aload_n (pc := 36) 1 dX11_sail_36 rfl ?_
      refine xg_X11_53 0 ho rfl (pc := 37) dX11_sail_37 rfl ?_
      refine s_aload_n (pc := 40) 1 dX11_sail_40 rfl ?_
      refine xg_X11_25 0 ho rfl (pc := 41) dX11_sail_41 rfl ?_
      refine xg_X11_174 1 ho rfl (pc := 44) dX11_sail_44 rfl hq_1_0 ?_
      refine s_aload_n (pc := 47) 0 dX11_sail_47 rfl ?_
      refine s_aload_n (pc := 48) 1 dX11_sail_48 rfl ?_
      refine xg_X11_25 0 ho rfl (pc := 49) dX11_sail_49 rfl ?_
      refine xg_X11_379 1 ho rfl (pc := 52) dX11_sail_52 rfl ?_
      refine s_iload_n (pc := 55) 2 dX11_sail_55 rfl ?_
      refine x_callV (M := MX11_sail) (L := [(11, b0, f0, s0), (7, (b0 + 8), f1, s1), (0, b2, f2, s2), (3, b3, f3, s3), (10, (b0 + 50), f4, s4)]) (h := h) (j := 4) (As := [.ref b2, .ref b3, .ref ((b0 + 8) + 15), .int a0]) (st := []) (A := fun (x : RS) => none) (Lc := [(10, (b0 + 50), f4, s4), (0, b2, f2, s2), (3, b3, f3, s3), (7, (b0 + 8), f1, s1)]) (Lr := fun (x : RS) => [(10, (b0 + 50), (va_up (va_up f4 7 (some b2)) 8 (some b3)), x), (0, b2, f2, s2), (3, b3, f3, s3), (7, (b0 + 8), f1, s1)]) (L2 := fun (x : RS) => [(11, b0, f0, s0), (7, (b0 + 8), f1, s1), (0, b2, f2, s2), (3, b3, f3, s3), (10, (b0 + 50), (va_up (va_up f4 7 (some b2)) 8 (some b3)), x)]) cv_X11_382 (by decide) (pc := 56) dX11_sail_56 ho rfl xc0_10 rfl rfl (Nat.le_of_ble_eq_true rfl) (xovs (L := [(11, b0, f0, s0), (7, (b0 + 8), f1, s1), (0, b2, f2, s2), (3, b3, f3, s3), (10, (b0 + 50), f4, s4)]) (h := h) [(4, (10, (b0 + 50), f4, s4)), (2, (0, b2, f2, s2)), (3, (3, b3, f3, s3)), (1, (7, (b0 + 8), f1, s1))] ho ⟨rfl, rfl, rfl, rfl, trivial⟩).1 (fun x => (xovs (L := [(11, b0, f0, s0), (7, (b0 + 8), f1, s1), (0, b2, f2, s2), (3, b3, f3, s3), (10, (b0 + 50), f4, s4)]) (h := h) [(4, (10, (b0 + 50), (va_up (va_up f4 7 (some b2)) 8 (some b3)), x)), (2, (0, b2, f2, s2)), (3, (3, b3, f3, s3)), (1, (7, (b0 + 8), f1, s1))] ho ⟨rfl, rfl, rfl, rfl, trivial⟩).1) (fun x hx => pX10_run_ok (h := xw [(11, b0, f0, s0), (7, (b0 + 8), f1, s1), (0, b2, f2, s2), (3, b3, f3, s3), (10, (b0 + 50), f4, s4)] h) (f0 := f4) (f1 := f2) (f2 := f3) (f3 := f1) (xok_sub ho [4, 2, 3, 1] rfl (by decide)) s4 s2 s3 s1 a0 x hx) rfl (fun x2 _ => ?_)
      refine s_aload_n (pc := 59) 1 dX11_sail_59 rfl ?_
      refine xg_X11_53 0 ho rfl (pc := 60) dX11_sail_60 rfl ?_
      refine xg_X11_386 4 ho rfl (pc := 63) dX11_sail_63 rfl ?_
      refine s_iconst (v := 0) (pc := 66) dX11_sail_66 (by decide) ?_
      refine s_aload_n (pc := 67) 1 dX11_sail_67 rfl ?_
      refine xg_X11_25 0 ho rfl (pc := 68) dX11_sail_68 rfl ?_
      refine xg_X11_379 1 ho rfl (pc := 71) dX11_sail_71 rfl ?_
      refine s_iconst (v := 0) (pc := 74) dX11_sail_74 (by decide) ?_
      refine s_iconst (v := 4) (pc := 75) dX11_sail_75 (by decide) ?_
      refine x_copyI (L' := fun s_3 => [(11, b0, f0, s0), (7, (b0 + 8), f1, s_3), (0, b2, f2, s2), (3, b3, f3, s3), (10, (b0 + 50), (va_up (va_up f4 7 (some b2)) 8 (some b3)), x2)]) (s' := uA s1 2 (va_cpy (x2.2.2.1 0) (s1.2.2.1 2) (0 : Int32).toNatClampNeg (0 : Int32).toNatClampNeg (4 : Int32).toNatClampNeg)) 4 1 ho rfl rfl rfl rfl rfl rfl rfl xu7_2 (fun _ => rfl) wm_X11_132 (by decide) (Nat.le_of_ble_eq_true rfl) (pc := 76) dX11_sail_76 (fun s_3 => ?_)
      refine s_aload_n (pc := 79) 1 dX11_sail_79 rfl ?_
      refine xg_X11_57 0 ho rfl (pc := 80) dX11_sail_80 rfl ?_
      refine s_iconst (v := 0) (pc := 83) dX11_sail_83 (by decide) ?_
      refine s_aload_n (pc := 84) 1 dX11_sail_84 rfl ?_
      refine xg_X11_53 0 ho rfl (pc := 85) dX11_sail_85 rfl ?_
      refine xg_X11_387 4 ho rfl (pc := 88) dX11_sail_88 rfl ?_
      refine xs_11_8 (L' := fun s_4 => [(11, b0, f0, s_4), (7, (b0 + 8), f1, s_3), (0, b2, f2, s2), (3, b3, f3, s3), (10, (b0 + 50), (va_up (va_up f4 7 (some b2)) 8 (some b3)), x2)]) 0 ho rfl (fun _ => rfl) (pc := 91) dX11_sail_91 (fun s_4 => ?_)
      refine s_aload_n (pc := 92) 1 dX11_sail_92 rfl ?_
      refine xg_X11_57 0 ho rfl (pc := 93) dX11_sail_93 rfl ?_
      refine s_iconst (v := 1) (pc := 96) dX11_sail_96 (by decide) ?_
      refine s_aload_n (pc := 97) 1 dX11_sail_97 rfl ?_
      refine xg_X11_53 0 ho rfl (pc := 98) dX11_sail_98 rfl ?_
      refine xg_X11_390 4 ho rfl (pc := 101) dX11_sail_101 rfl ?_
      refine xs_11_8 (L' := fun s_5 => [(11, b0, f0, s_5), (7, (b0 + 8), f1, s_3), (0, b2, f2, s2), (3, b3, f3, s3), (10, (b0 + 50), (va_up (va_up f4 7 (some b2)) 8 (some b3)), x2)]) 0 ho rfl (fun _ => rfl) (pc := 104) dX11_sail_104 (fun s_5 => ?_)
      refine s_aload_n (pc := 105) 1 dX11_sail_105 rfl ?_
      refine xg_X11_57 0 ho rfl (pc := 106) dX11_sail_106 rfl ?_
      refine s_iconst (v := 2) (pc := 109) dX11_sail_109 (by decide) ?_
      refine s_aload_n (pc := 110) 1 dX11_sail_110 rfl ?_
      refine xg_X11_53 0 ho rfl (pc := 111) dX11_sail_111 rfl ?_
      refine xg_X11_393 4 ho rfl (pc := 114) dX11_sail_114 rfl ?_
      refine xs_11_8 (L' := fun s_6 => [(11, b0, f0, s_6), (7, (b0 + 8), f1, s_3), (0, b2, f2, s2), (3, b3, f3, s3), (10, (b0 + 50), (va_up (va_up f4 7 (some b2)) 8 (some b3)), x2)]) 0 ho rfl (fun _ => rfl) (pc := 117) dX11_sail_117 (fun s_6 => ?_)
      refine s_aload_n (pc := 118) 1 dX11_sail_118 rfl ?_
      refine xg_X11_57 0 ho rfl (pc := 119) dX11_sail_119 rfl ?_
      refine s_iconst (v := 3) (pc := 122) dX11_sail_122 (by decide) ?_
      refine s_aload_n (pc := 123) 1 dX11_sail_123 rfl ?_
      refine xg_X11_53 0 ho rfl (pc := 124) dX11_sail_124 rfl ?_
      refine xg_X11_396 4 ho rfl (pc := 127) dX11_sail_127 rfl ?_
      refine xs_11_8 (L' := fun s_7 => [(11, b0, f0, s_7), (7, (b0 + 8), f1, s_3), (0, b2, f2, s2), (3, b3, f3, s3), (10, (b0 + 50), (va_up (va_up f4 7 (some b2)) 8 (some b3)), x2)]) 0 ho rfl (fun _ => rfl) (pc := 130) dX11_sail_130 (fun s_7 => ?_)
      refine s_aload_n (pc := 131) 1 dX11_sail_131 rfl ?_
      refine xg_X11_57 0 ho rfl (pc := 132) dX11_sail_132 rfl ?_
      refine s_iconst (v := 4) (pc := 135) dX11_sail_135 (by decide) ?_
      refine s_aload_n (pc := 136) 1 dX11_sail_136 rfl ?_
      refine xg_X11_53 0 ho rfl (pc := 137) dX11_sail_137 rfl ?_
      refine xg_X11_399 4 ho rfl (pc := 140) dX11_sail_140 rfl ?_
      refine xs_11_8 (L' := fun s_8 => [(11, b0, f0, s_8), (7, (b0 + 8), f1, s_3), (0, b2, f2, s2), (3, b3, f3, s3), (10, (b0 + 50), (va_up (va_up f4 7 (some b2)) 8 (some b3)), x2)]) 0 ho rfl (fun _ => rfl) (pc := 143) dX11_sail_143 (fun s_8 => ?_)
      refine s_aload_n (pc := 144) 1 dX11_sail_144 rfl ?_
      refine s_iconst (v := 1) (pc := 145) dX11_sail_145 (by decide) ?_
      refine xp_X11_61 (L' := fun s_9 => [(11, b0, f0, s_9), (7, (b0 + 8), f1, s_3), (0, b2, f2, s2), (3, b3, f3, s3), (10, (b0 + 50), (va_up (va_up f4 7 (some b2)) 8 (some b3)), x2)]) 0 ⟨by decide, by decide⟩ ho rfl (fun _ => rfl) (pc := 146) dX11_sail_146 rfl (fun s_9 => ?_)
      refine s_aload_n (pc := 149) 1 dX11_sail_149 rfl ?_
      refine s_aload_n (pc := 150) 1 dX11_sail_150 rfl ?_
      refine xg_X11_53 0 ho rfl (pc := 151) dX11_sail_151 rfl ?_
      refine xg_X11_402 4 ho rfl (pc := 154) dX11_sail_154 rfl ?_
      refine x_callV (M := MX11_sail) (L := [(11, b0, f0, s_9), (7, (b0 + 8), f1, s_3), (0, b2, f2, s2), (3, b3, f3, s3), (10, (b0 + 50), (va_up (va_up f4 7 (some b2)) 8 (some b3)), x2)]) (h := h) (j := 0) (As := [.int (x2.1 1)]) (st := []) (A := fun (x : Int32 × RS) => some (.int x.1)) (Lc := [(11, b0, f0, s_9)]) (Lr := fun (x : Int32 × RS) => [(11, b0, f0, x.2)]) (L2 := fun (x : Int32 × RS) => [(11, b0, f0, x.2), (7, (b0 + 8), f1, s_3), (0, b2, f2, s2), (3, b3, f3, s3), (10, (b0 + 50), (va_up (va_up f4 7 (some b2)) 8 (some b3)), x2)]) cv_X11_169 (by decide) (pc := 157) dX11_sail_157 ho rfl xc0_11 rfl rfl (Nat.le_of_ble_eq_true rfl) (xovs (L := [(11, b0, f0, s_9), (7, (b0 + 8), f1, s_3), (0, b2, f2, s2), (3, b3, f3, s3), (10, (b0 + 50), (va_up (va_up f4 7 (some b2)) 8 (some b3)), x2)]) (h := h) [(0, (11, b0, f0, s_9))] ho ⟨rfl, trivial⟩).1 (fun x => (xovs (L := [(11, b0, f0, s_9), (7, (b0 + 8), f1, s_3), (0, b2, f2, s2), (3, b3, f3, s3), (10, (b0 + 50), (va_up (va_up f4 7 (some b2)) 8 (some b3)), x2)]) (h := h) [(0, (11, b0, f0, x.2))] ho ⟨rfl, trivial⟩).1) (fun x hx => pX11_tell_ok (h := xw [(11, b0, f0, s_9), (7, (b0 + 8), f1, s_3), (0, b2, f2, s2), (3, b3, f3, s3), (10, (b0 + 50), (va_up (va_up f4 7 (some b2)) 8 (some b3)), x2)] h) (f0 := f0) (xok_sub ho [0] rfl (by decide)) s_9 (x2.1 1) x hx) rfl (fun x10 _ => ?_)
      exact s_iret (pc := 160) dX11_sail_160 rfl (fun _ _ q => q)
    · refine s_sub [0] rfl ?_
      exact X11_sail_j11_ok ho hq_1_0 hq_1_1 s0 s1 s2 s3 s4
theorem pX11_sail_ok (ho : xok [(11, b0), (7, (b0 + 8)), (0, b2), (3, b3), (10, (b0 + 50))] h.2.1) (hq_1_0 : f1 0 = some b2) (hq_1_1 : f1 1 = some b3) (s0 : RS) (s1 : RS) (s2 : RS) (s3 : RS) (s4 : RS) (a0 : Int32) : ∀ x, pX11_sail s0 s1 s2 s3 s4 b0 b2 b3 f4 a0 = some x → aMet l 6 yX11_sail cX11_sail 3 (some .int) [.ref b0, .int a0] (xw [(11, b0, f0, s0), (7, (b0 + 8), f1, s1), (0, b2, f2, s2), (3, b3, f3, s3), (10, (b0 + 50), f4, s4)] h) (some (.int x.1)) (xw [(11, b0, f0, x.2.1), (7, (b0 + 8), f1, x.2.2.1), (0, b2, f2, s2), (3, b3, f3, s3), (10, (b0 + 50), x.2.2.2.2, x.2.2.2.1)] h) := fun x hx => a_meth (ini := false) (y := yX11_sail) (by decide +kernel) (fun q => by cases q) (fun _ => Nat.le_of_ble_eq_true rfl) (pX11_sail_w ho hq_1_0 hq_1_1 s0 s1 s2 s3 s4 a0) x hx _ _ ⟨rfl, rfl⟩
end
section
variable {l : Launch} {n0 S0 : Nat} {h : aH} {b0 b2 : Nat} {f0 f1 f2 f3 : Nat → Option Nat}
def X11_sailN_j11 (s0 : RS) (s1 : RS) (s2 : RS) (s3 : RS) : Option (Int32 × RS) :=
  (pX11_refuse s0 (5 : Int32)).bind fun x1 =>
  some (x1.1, x1.2)
theorem X11_sailN_j11_ok (ho : xok [(11, b0), (7, (b0 + 8)), (0, b2), (10, (b0 + 50))] h.2.1) (hq_1_0 : f1 0 = some b2) (hq_1_1 : f1 1 = none) (s0 : RS) (s1 : RS) (s2 : RS) (s3 : RS) : aS l 1 MX11_sail n0 S0 (oΦ (fun (x : Int32 × RS) => ((some (.int x.1)), xw [(11, b0, f0, x.2), (7, (b0 + 8), f1, s1), (0, b2, f2, s2), (10, (b0 + 50), f3, s3)] h))) 11 [(0, .ref b0)] [] (xw [(11, b0, f0, s0), (7, (b0 + 8), f1, s1), (0, b2, f2, s2), (10, (b0 + 50), f3, s3)] h) (X11_sailN_j11 s0 s1 s2 s3) := by
  unfold X11_sailN_j11
  refine s_aload_n (pc := 11) 0 dX11_sail_11 rfl ?_
  refine s_iconst (v := 5) (pc := 12) dX11_sail_12 (by decide) ?_
  refine x_callV (M := MX11_sail) (L := [(11, b0, f0, s0), (7, (b0 + 8), f1, s1), (0, b2, f2, s2), (10, (b0 + 50), f3, s3)]) (h := h) (j := 0) (As := [.int 5]) (st := []) (A := fun (x : Int32 × RS) => some (.int x.1)) (Lc := [(11, b0, f0, s0)]) (Lr := fun (x : Int32 × RS) => [(11, b0, f0, x.2)]) (L2 := fun (x : Int32 × RS) => [(11, b0, f0, x.2), (7, (b0 + 8), f1, s1), (0, b2, f2, s2), (10, (b0 + 50), f3, s3)]) cv_X11_113 (by decide) (pc := 13) dX11_sail_13 ho rfl xc0_11 rfl rfl (Nat.le_of_ble_eq_true rfl) (xovs (L := [(11, b0, f0, s0), (7, (b0 + 8), f1, s1), (0, b2, f2, s2), (10, (b0 + 50), f3, s3)]) (h := h) [(0, (11, b0, f0, s0))] ho ⟨rfl, trivial⟩).1 (fun x => (xovs (L := [(11, b0, f0, s0), (7, (b0 + 8), f1, s1), (0, b2, f2, s2), (10, (b0 + 50), f3, s3)]) (h := h) [(0, (11, b0, f0, x.2))] ho ⟨rfl, trivial⟩).1) (fun x hx => pX11_refuse_ok (h := xw [(11, b0, f0, s0), (7, (b0 + 8), f1, s1), (0, b2, f2, s2), (10, (b0 + 50), f3, s3)] h) (f0 := f0) (xok_sub ho [0] rfl (by decide)) s0 (5 : Int32) x hx) rfl (fun x1 _ => ?_)
  exact s_iret (pc := 16) dX11_sail_16 rfl (fun _ _ q => q)
def pX11_sailN (s0 : RS) (s1 : RS) (s2 : RS) (s3 : RS) (a0 : Int32) : Option (Int32 × RS) :=
  if a0 < 0 then
    X11_sailN_j11 s0 s1 s2 s3
  else
    if a0 ≤ (9999 : Int32) then
      (pX11_refuse s0 (8 : Int32)).bind fun x2 =>
      some (x2.1, x2.2)
    else
      X11_sailN_j11 s0 s1 s2 s3
theorem pX11_sailN_w (ho : xok [(11, b0), (7, (b0 + 8)), (0, b2), (10, (b0 + 50))] h.2.1) (hq_1_0 : f1 0 = some b2) (hq_1_1 : f1 1 = none) (s0 : RS) (s1 : RS) (s2 : RS) (s3 : RS) (a0 : Int32) : aS l 1 MX11_sail n0 S0 (oΦ (fun (x : Int32 × RS) => ((some (.int x.1)), xw [(11, b0, f0, x.2), (7, (b0 + 8), f1, s1), (0, b2, f2, s2), (10, (b0 + 50), f3, s3)] h))) 0 [(0, .ref b0), (1, .int a0)] [] (xw [(11, b0, f0, s0), (7, (b0 + 8), f1, s1), (0, b2, f2, s2), (10, (b0 + 50), f3, s3)] h) (pX11_sailN s0 s1 s2 s3 a0) := by
  unfold pX11_sailN
  refine s_iload_n (pc := 0) 1 dX11_sail_0 rfl ?_
  refine s_if_lt (tgt := 11) (pc := 1) dX11_sail_1 (by decide) (fun _ => ?_) (fun _ => ?_)
  · refine s_sub [0] rfl ?_
    exact X11_sailN_j11_ok ho hq_1_0 hq_1_1 s0 s1 s2 s3
  · refine s_iload_n (pc := 4) 1 dX11_sail_4 rfl ?_
    refine s_sipush (v := 9999) (pc := 5) dX11_sail_5 (by decide) ?_
    refine s_icmp_le (tgt := 17) (pc := 8) dX11_sail_8 (by decide) (fun _ => ?_) (fun _ => ?_)
    · refine s_aload_n (pc := 17) 0 dX11_sail_17 rfl ?_
      refine xg_X11_25 0 ho rfl (pc := 18) dX11_sail_18 rfl ?_
      refine xgN_X11_185 1 ho rfl (pc := 21) dX11_sail_21 rfl hq_1_1 ?_
      refine s_astore_nN (lv' := [(2, .null), (0, .ref b0), (1, .int a0)]) (pc := 24) dX11_sail_24 (by decide) rfl ?_
      refine s_aload_nN (pc := 25) 0 dX11_sail_25 rfl ?_
      refine s_nullJ (tgt := 0) (pc := 26) dX11_sail_26 ?_
      refine s_aload_n (pc := 29) 1 dX11_sail_29 rfl ?_
      refine s_bipush (v := 8) (pc := 30) dX11_sail_30 (by decide) ?_
      refine x_callV (M := MX11_sail) (L := [(11, b0, f0, s0), (7, (b0 + 8), f1, s1), (0, b2, f2, s2), (10, (b0 + 50), f3, s3)]) (h := h) (j := 0) (As := [.int 8]) (st := []) (A := fun (x : Int32 × RS) => some (.int x.1)) (Lc := [(11, b0, f0, s0)]) (Lr := fun (x : Int32 × RS) => [(11, b0, f0, x.2)]) (L2 := fun (x : Int32 × RS) => [(11, b0, f0, x.2), (7, (b0 + 8), f1, s1), (0, b2, f2, s2), (10, (b0 + 50), f3, s3)]) cv_X11_113 (by decide) (pc := 32) dX11_sail_32 ho rfl xc0_11 rfl rfl (Nat.le_of_ble_eq_true rfl) (xovs (L := [(11, b0, f0, s0), (7, (b0 + 8), f1, s1), (0, b2, f2, s2), (10, (b0 + 50), f3, s3)]) (h := h) [(0, (11, b0, f0, s0))] ho ⟨rfl, trivial⟩).1 (fun x => (xovs (L := [(11, b0, f0, s0), (7, (b0 + 8), f1, s1), (0, b2, f2, s2), (10, (b0 + 50), f3, s3)]) (h := h) [(0, (11, b0, f0, x.2))] ho ⟨rfl, trivial⟩).1) (fun x hx => pX11_refuse_ok (h := xw [(11, b0, f0, s0), (7, (b0 + 8), f1, s1), (0, b2, f2, s2), (10, (b0 + 50), f3, s3)] h) (f0 := f0) (xok_sub ho [0] rfl (by decide)) s0 (8 : Int32) x hx) rfl (fun x2 _ => ?_)
      exact s_iret (pc := 35) dX11_sail_35 rfl (fun _ _ q => q)
    · refine s_sub [0] rfl ?_
      exact X11_sailN_j11_ok ho hq_1_0 hq_1_1 s0 s1 s2 s3
theorem pX11_sailN_ok (ho : xok [(11, b0), (7, (b0 + 8)), (0, b2), (10, (b0 + 50))] h.2.1) (hq_1_0 : f1 0 = some b2) (hq_1_1 : f1 1 = none) (s0 : RS) (s1 : RS) (s2 : RS) (s3 : RS) (a0 : Int32) : ∀ x, pX11_sailN s0 s1 s2 s3 a0 = some x → aMet l 1 yX11_sail cX11_sail 3 (some .int) [.ref b0, .int a0] (xw [(11, b0, f0, s0), (7, (b0 + 8), f1, s1), (0, b2, f2, s2), (10, (b0 + 50), f3, s3)] h) (some (.int x.1)) (xw [(11, b0, f0, x.2), (7, (b0 + 8), f1, s1), (0, b2, f2, s2), (10, (b0 + 50), f3, s3)] h) := fun x hx => a_meth (ini := false) (y := yX11_sail) (by decide +kernel) (fun q => by cases q) (fun _ => Nat.le_of_ble_eq_true rfl) (pX11_sailN_w ho hq_1_0 hq_1_1 s0 s1 s2 s3 a0) x hx _ _ ⟨rfl, rfl⟩
end
section
variable {l : Launch} {n0 S0 : Nat} {h : aH} {b0 : Nat} {f0 : Nat → Option Nat}
abbrev MX11_sailed : aM := (cX11_sailed, RX11, 2, (some .int), false)
def X11_sailed_j13 (s0 : RS) : Option (Int32 × RS) :=
  (pX11_refuse s0 (5 : Int32)).bind fun x1 =>
  some (x1.1, x1.2)
theorem X11_sailed_j13_ok (ho : xok [(11, b0)] h.2.1) (s0 : RS) : aS l 1 MX11_sailed n0 S0 (oΦ (fun (x : Int32 × RS) => ((some (.int x.1)), xw [(11, b0, f0, x.2)] h))) 13 [(0, .ref b0)] [] (xw [(11, b0, f0, s0)] h) (X11_sailed_j13 s0) := by
  unfold X11_sailed_j13
  refine s_aload_n (pc := 13) 0 dX11_sailed_13 rfl ?_
  refine s_iconst (v := 5) (pc := 14) dX11_sailed_14 (by decide) ?_
  refine x_callV (M := MX11_sailed) (L := [(11, b0, f0, s0)]) (h := h) (j := 0) (As := [.int 5]) (st := []) (A := fun (x : Int32 × RS) => some (.int x.1)) (Lc := [(11, b0, f0, s0)]) (Lr := fun (x : Int32 × RS) => [(11, b0, f0, x.2)]) (L2 := fun (x : Int32 × RS) => [(11, b0, f0, x.2)]) cv_X11_113 (by decide) (pc := 15) dX11_sailed_15 ho rfl xc0_11 rfl rfl (Nat.le_of_ble_eq_true rfl) (xovs (L := [(11, b0, f0, s0)]) (h := h) [(0, (11, b0, f0, s0))] ho ⟨rfl, trivial⟩).1 (fun x => (xovs (L := [(11, b0, f0, s0)]) (h := h) [(0, (11, b0, f0, x.2))] ho ⟨rfl, trivial⟩).1) (fun x hx => pX11_refuse_ok (h := xw [(11, b0, f0, s0)] h) (f0 := f0) (xok_sub ho [0] rfl (by decide)) s0 (5 : Int32) x hx) rfl (fun x1 _ => ?_)
  exact s_iret (pc := 18) dX11_sailed_18 rfl (fun _ _ q => q)
def pX11_sailed (s0 : RS) (a0 : Int32) : Option (Int32 × RS) :=
  if a0 < 0 then
    X11_sailed_j13 s0
  else
    if a0 < (5 : Int32) then
      if (s0.1 9) = 0 then
        (pX11_refuse s0 (8 : Int32)).bind fun x2 =>
        some (x2.1, x2.2)
      else
        g_in a0 5 (
        (pX11_tell s0 (s0.2.2.1 8 a0.toNatClampNeg)).bind fun x3 =>
        some (x3.1, x3.2))
    else
      X11_sailed_j13 s0
theorem pX11_sailed_w (ho : xok [(11, b0)] h.2.1) (s0 : RS) (a0 : Int32) : aS l 1 MX11_sailed n0 S0 (oΦ (fun (x : Int32 × RS) => ((some (.int x.1)), xw [(11, b0, f0, x.2)] h))) 0 [(0, .ref b0), (1, .int a0)] [] (xw [(11, b0, f0, s0)] h) (pX11_sailed s0 a0) := by
  unfold pX11_sailed
  refine s_iload_n (pc := 0) 1 dX11_sailed_0 rfl ?_
  refine s_if_lt (tgt := 13) (pc := 1) dX11_sailed_1 (by decide) (fun _ => ?_) (fun _ => ?_)
  · refine s_sub [0] rfl ?_
    exact X11_sailed_j13_ok ho s0
  · refine s_iload_n (pc := 4) 1 dX11_sailed_4 rfl ?_
    refine s_aload_n (pc := 5) 0 dX11_sailed_5 rfl ?_
    refine xg_X11_57 0 ho rfl (pc := 6) dX11_sailed_6 rfl ?_
    refine xn_11_8 0 ho rfl (pc := 9) dX11_sailed_9 ?_
    refine s_icmp_lt (tgt := 19) (pc := 10) dX11_sailed_10 (by decide) (fun _ => ?_) (fun _ => ?_)
    · refine s_aload_n (pc := 19) 0 dX11_sailed_19 rfl ?_
      refine xg_X11_61 0 ho rfl (pc := 20) dX11_sailed_20 rfl ?_
      refine s_if_eq (tgt := 39) (pc := 23) dX11_sailed_23 (by decide) (fun _ => ?_) (fun _ => ?_)
      · refine s_aload_n (pc := 39) 0 dX11_sailed_39 rfl ?_
        refine s_bipush (v := 8) (pc := 40) dX11_sailed_40 (by decide) ?_
        refine x_callV (M := MX11_sailed) (L := [(11, b0, f0, s0)]) (h := h) (j := 0) (As := [.int 8]) (st := []) (A := fun (x : Int32 × RS) => some (.int x.1)) (Lc := [(11, b0, f0, s0)]) (Lr := fun (x : Int32 × RS) => [(11, b0, f0, x.2)]) (L2 := fun (x : Int32 × RS) => [(11, b0, f0, x.2)]) cv_X11_113 (by decide) (pc := 42) dX11_sailed_42 ho rfl xc0_11 rfl rfl (Nat.le_of_ble_eq_true rfl) (xovs (L := [(11, b0, f0, s0)]) (h := h) [(0, (11, b0, f0, s0))] ho ⟨rfl, trivial⟩).1 (fun x => (xovs (L := [(11, b0, f0, s0)]) (h := h) [(0, (11, b0, f0, x.2))] ho ⟨rfl, trivial⟩).1) (fun x hx => pX11_refuse_ok (h := xw [(11, b0, f0, s0)] h) (f0 := f0) (xok_sub ho [0] rfl (by decide)) s0 (8 : Int32) x hx) rfl (fun x2 _ => ?_)
        exact s_iret (pc := 45) dX11_sailed_45 rfl (fun _ _ q => q)
      · refine s_aload_n (pc := 26) 0 dX11_sailed_26 rfl ?_
        refine s_aload_n (pc := 27) 0 dX11_sailed_27 rfl ?_
        refine xg_X11_57 0 ho rfl (pc := 28) dX11_sailed_28 rfl ?_
        refine s_iload_n (pc := 31) 1 dX11_sailed_31 rfl ?_
        refine xl_11_8 0 ho rfl (pc := 32) dX11_sailed_32 ?_
        refine x_callV (M := MX11_sailed) (L := [(11, b0, f0, s0)]) (h := h) (j := 0) (As := [.int (s0.2.2.1 8 a0.toNatClampNeg)]) (st := []) (A := fun (x : Int32 × RS) => some (.int x.1)) (Lc := [(11, b0, f0, s0)]) (Lr := fun (x : Int32 × RS) => [(11, b0, f0, x.2)]) (L2 := fun (x : Int32 × RS) => [(11, b0, f0, x.2)]) cv_X11_169 (by decide) (pc := 33) dX11_sailed_33 ho rfl xc0_11 rfl rfl (Nat.le_of_ble_eq_true rfl) (xovs (L := [(11, b0, f0, s0)]) (h := h) [(0, (11, b0, f0, s0))] ho ⟨rfl, trivial⟩).1 (fun x => (xovs (L := [(11, b0, f0, s0)]) (h := h) [(0, (11, b0, f0, x.2))] ho ⟨rfl, trivial⟩).1) (fun x hx => pX11_tell_ok (h := xw [(11, b0, f0, s0)] h) (f0 := f0) (xok_sub ho [0] rfl (by decide)) s0 (s0.2.2.1 8 a0.toNatClampNeg) x hx) rfl (fun x3 _ => ?_)
        refine s_goto (tgt := 45) (pc := 36) dX11_sailed_36 (by decide) ?_
        exact s_iret (pc := 45) dX11_sailed_45 rfl (fun _ _ q => q)
    · refine s_sub [0] rfl ?_
      exact X11_sailed_j13_ok ho s0
theorem pX11_sailed_ok (ho : xok [(11, b0)] h.2.1) (s0 : RS) (a0 : Int32) : ∀ x, pX11_sailed s0 a0 = some x → aMet l 1 yX11_sailed cX11_sailed 2 (some .int) [.ref b0, .int a0] (xw [(11, b0, f0, s0)] h) (some (.int x.1)) (xw [(11, b0, f0, x.2)] h) := fun x hx => a_meth (ini := false) (y := yX11_sailed) (by decide +kernel) (fun q => by cases q) (fun _ => Nat.le_of_ble_eq_true rfl) (pX11_sailed_w ho s0 a0) x hx _ _ ⟨rfl, rfl⟩
end
section
variable {l : Launch} {n0 S0 : Nat} {h : aH} {b0 b2 b3 : Nat} {f0 f1 f2 f3 f4 : Nat → Option Nat}
abbrev MX11_agreed : aM := (cX11_agreed, RX11, 6, (some .int), false)
def X11_agreed_j24 (s0 : RS) (s1 : RS) (s2 : RS) (s3 : RS) (s4 : RS) (b0 : Nat) (b2 : Nat) (b3 : Nat) (f4 : Nat → Option Nat) : Option (Int32 × RS × RS × (Nat → Option Nat)) :=
  (pX11_refuse s0 (5 : Int32)).bind fun x1 =>
  some (x1.1, x1.2, s4, f4)
theorem X11_agreed_j24_ok (ho : xok [(11, b0), (7, (b0 + 8)), (0, b2), (3, b3), (10, (b0 + 50))] h.2.1) (hq_1_0 : f1 0 = some b2) (hq_1_1 : f1 1 = some b3) (s0 : RS) (s1 : RS) (s2 : RS) (s3 : RS) (s4 : RS) : aS l 6 MX11_agreed n0 S0 (oΦ (fun (x : Int32 × RS × RS × (Nat → Option Nat)) => ((some (.int x.1)), xw [(11, b0, f0, x.2.1), (7, (b0 + 8), f1, s1), (0, b2, f2, s2), (3, b3, f3, s3), (10, (b0 + 50), x.2.2.2, x.2.2.1)] h))) 24 [(0, .ref b0)] [] (xw [(11, b0, f0, s0), (7, (b0 + 8), f1, s1), (0, b2, f2, s2), (3, b3, f3, s3), (10, (b0 + 50), f4, s4)] h) (X11_agreed_j24 s0 s1 s2 s3 s4 b0 b2 b3 f4) := by
  unfold X11_agreed_j24
  refine s_aload_n (pc := 24) 0 dX11_agreed_24 rfl ?_
  refine s_iconst (v := 5) (pc := 25) dX11_agreed_25 (by decide) ?_
  refine x_callV (M := MX11_agreed) (L := [(11, b0, f0, s0), (7, (b0 + 8), f1, s1), (0, b2, f2, s2), (3, b3, f3, s3), (10, (b0 + 50), f4, s4)]) (h := h) (j := 0) (As := [.int 5]) (st := []) (A := fun (x : Int32 × RS) => some (.int x.1)) (Lc := [(11, b0, f0, s0)]) (Lr := fun (x : Int32 × RS) => [(11, b0, f0, x.2)]) (L2 := fun (x : Int32 × RS) => [(11, b0, f0, x.2), (7, (b0 + 8), f1, s1), (0, b2, f2, s2), (3, b3, f3, s3), (10, (b0 + 50), f4, s4)]) cv_X11_113 (by decide) (pc := 26) dX11_agreed_26 ho rfl xc0_11 rfl rfl (Nat.le_of_ble_eq_true rfl) (xovs (L := [(11, b0, f0, s0), (7, (b0 + 8), f1, s1), (0, b2, f2, s2), (3, b3, f3, s3), (10, (b0 + 50), f4, s4)]) (h := h) [(0, (11, b0, f0, s0))] ho ⟨rfl, trivial⟩).1 (fun x => (xovs (L := [(11, b0, f0, s0), (7, (b0 + 8), f1, s1), (0, b2, f2, s2), (3, b3, f3, s3), (10, (b0 + 50), f4, s4)]) (h := h) [(0, (11, b0, f0, x.2))] ho ⟨rfl, trivial⟩).1) (fun x hx => pX11_refuse_ok (h := xw [(11, b0, f0, s0), (7, (b0 + 8), f1, s1), (0, b2, f2, s2), (3, b3, f3, s3), (10, (b0 + 50), f4, s4)] h) (f0 := f0) (xok_sub ho [0] rfl (by decide)) s0 (5 : Int32) x hx) rfl (fun x1 _ => ?_)
  exact s_iret (pc := 29) dX11_agreed_29 rfl (fun _ _ q => q)
def X11_agreed_x55 (l : Launch) (n0 S0 : Nat) (h : aH) (b0 : Nat) (b2 : Nat) (b3 : Nat) (f0 : Nat → Option Nat) (f1 : Nat → Option Nat) (f2 : Nat → Option Nat) (f3 : Nat → Option Nat) (f4 : Nat → Option Nat) (v1 : Int32) (v2 : Int32) (s0 : RS) (s1 : RS) (s2 : RS) (s3 : RS) : (Int32 × RS × (Nat → Option Nat)) → Option Value → aH → Prop := fun (x : Int32 × RS × (Nat → Option Nat)) r h' => aEv l 6 MX11_agreed n0 S0 106 [(0, .ref b0), (4, .int x.1)] [] (xw [(11, b0, f0, s0), (7, (b0 + 8), f1, s1), (0, b2, f2, s2), (3, b3, f3, s3), (10, (b0 + 50), x.2.2, x.2.1)] h) r h'
def X11_agreed_j100 (v1 : Int32) (v2 : Int32) (v4 : Int32) (v5 : Int32) (s0 : RS) (s1 : RS) (s2 : RS) (s3 : RS) (s4 : RS) (b0 : Nat) (b2 : Nat) (b3 : Nat) (f4 : Nat → Option Nat) : Option ((Int32 × Int32 × RS × (Nat → Option Nat)) ⊕ (Int32 × RS × (Nat → Option Nat))) :=
  thn (v5 + 1) fun x4 =>
  some (.inl (v4, x4, s4, f4))
theorem X11_agreed_j100_ok (ho : xok [(11, b0), (7, (b0 + 8)), (0, b2), (3, b3), (10, (b0 + 50))] h.2.1) (hq_1_0 : f1 0 = some b2) (hq_1_1 : f1 1 = some b3) (hq_4_7 : f4 7 = some b2) (hq_4_8 : f4 8 = some b3) (v1 : Int32) (v2 : Int32) (v4 : Int32) (v5 : Int32) (s0 : RS) (s1 : RS) (s2 : RS) (s3 : RS) (s4 : RS) : aS l 6 MX11_agreed n0 S0 (a_LΦ (X11_agreed_x55 l n0 S0 h b0 b2 b3 f0 f1 f2 f3 f4 v1 v2 s0 s1 s2 s3) l 6 MX11_agreed n0 S0 55 (fun (q : Int32 × Int32 × RS × (Nat → Option Nat)) => [(0, .ref b0), (1, .int v1), (2, .int v2), (3, .ref b3), (4, .int q.1), (5, .int q.2.1)]) (fun _ => []) (fun (q : Int32 × Int32 × RS × (Nat → Option Nat)) => xw [(11, b0, f0, s0), (7, (b0 + 8), f1, s1), (0, b2, f2, s2), (3, b3, f3, s3), (10, (b0 + 50), q.2.2.2, q.2.2.1)] h)) 100 [(0, .ref b0), (1, .int v1), (2, .int v2), (3, .ref b3), (4, .int v4), (5, .int v5)] [] (xw [(11, b0, f0, s0), (7, (b0 + 8), f1, s1), (0, b2, f2, s2), (3, b3, f3, s3), (10, (b0 + 50), f4, s4)] h) (X11_agreed_j100 v1 v2 v4 v5 s0 s1 s2 s3 s4 b0 b2 b3 f4) := by
  unfold X11_agreed_j100
  refine s_iincT (pc := 100) 5 (lv' := fun x4 => [(5, .int x4), (0, .ref b0), (1, .int v1), (2, .int v2), (3, .ref b3), (4, .int v4)]) dX11_agreed_100 rfl rfl (by decide) (fun _ => rfl) (fun x4 => ?_)
  refine s_goto (tgt := 55) (pc := 103) dX11_agreed_103 (by decide) ?_
  refine s_sub [1, 2, 3, 4, 5, 0] rfl ?_
  exact s_ev (fun _ _ q => q)
def X11_agreed_b55 (v1 : Int32) (v2 : Int32) (v4 : Int32) (v5 : Int32) (s0 : RS) (s1 : RS) (s2 : RS) (s3 : RS) (s4 : RS) (b0 : Nat) (b2 : Nat) (b3 : Nat) (f4 : Nat → Option Nat) : Option ((Int32 × Int32 × RS × (Nat → Option Nat)) ⊕ (Int32 × RS × (Nat → Option Nat))) :=
  if v2 ≤ v5 then
    some (.inr (v4, s4, f4))
  else
    (pX10_run s4 s2 s3 s1 (v1 + v5)).bind fun x2 =>
    (pX10_allAlike x2 s2 s3).bind fun x3 =>
    if x3 = true then
      thn (v4 + 1) fun x5 =>
      X11_agreed_j100 v1 v2 x5 v5 s0 s1 s2 s3 x2 b0 b2 b3 (va_up (va_up f4 7 (some b2)) 8 (some b3))
    else
      X11_agreed_j100 v1 v2 v4 v5 s0 s1 s2 s3 x2 b0 b2 b3 (va_up (va_up f4 7 (some b2)) 8 (some b3))
theorem X11_agreed_b55_ok (ho : xok [(11, b0), (7, (b0 + 8)), (0, b2), (3, b3), (10, (b0 + 50))] h.2.1) (hq_1_0 : f1 0 = some b2) (hq_1_1 : f1 1 = some b3) (v1 : Int32) (v2 : Int32) (v4 : Int32) (v5 : Int32) (s0 : RS) (s1 : RS) (s2 : RS) (s3 : RS) (s4 : RS) : aS l 6 MX11_agreed n0 S0 (a_LΦ (X11_agreed_x55 l n0 S0 h b0 b2 b3 f0 f1 f2 f3 f4 v1 v2 s0 s1 s2 s3) l 6 MX11_agreed n0 S0 55 (fun (q : Int32 × Int32 × RS × (Nat → Option Nat)) => [(0, .ref b0), (1, .int v1), (2, .int v2), (3, .ref b3), (4, .int q.1), (5, .int q.2.1)]) (fun _ => []) (fun (q : Int32 × Int32 × RS × (Nat → Option Nat)) => xw [(11, b0, f0, s0), (7, (b0 + 8), f1, s1), (0, b2, f2, s2), (3, b3, f3, s3), (10, (b0 + 50), q.2.2.2, q.2.2.1)] h)) 55 [(0, .ref b0), (1, .int v1), (2, .int v2), (3, .ref b3), (4, .int v4), (5, .int v5)] [] (xw [(11, b0, f0, s0), (7, (b0 + 8), f1, s1), (0, b2, f2, s2), (3, b3, f3, s3), (10, (b0 + 50), f4, s4)] h) (X11_agreed_b55 v1 v2 v4 v5 s0 s1 s2 s3 s4 b0 b2 b3 f4) := by
  unfold X11_agreed_b55
  refine s_iload (pc := 55) 5 dX11_agreed_55 rfl ?_
  refine s_iload_n (pc := 57) 2 dX11_agreed_57 rfl ?_
  refine s_icmp_ge (tgt := 106) (pc := 58) dX11_agreed_58 (by decide) (fun _ => ?_) (fun _ => ?_)
  · refine s_sub [0, 4] rfl ?_
    exact s_ev (fun _ _ q => q)
  · refine s_aload_n (pc := 61) 0 dX11_agreed_61 rfl ?_
    refine xg_X11_53 0 ho rfl (pc := 62) dX11_agreed_62 rfl ?_
    refine s_aload_n (pc := 65) 0 dX11_agreed_65 rfl ?_
    refine xg_X11_25 0 ho rfl (pc := 66) dX11_agreed_66 rfl ?_
    refine xg_X11_174 1 ho rfl (pc := 69) dX11_agreed_69 rfl hq_1_0 ?_
    refine s_aload_n (pc := 72) 3 dX11_agreed_72 rfl ?_
    refine s_aload_n (pc := 73) 0 dX11_agreed_73 rfl ?_
    refine xg_X11_25 0 ho rfl (pc := 74) dX11_agreed_74 rfl ?_
    refine xg_X11_379 1 ho rfl (pc := 77) dX11_agreed_77 rfl ?_
    refine s_iload_n (pc := 80) 1 dX11_agreed_80 rfl ?_
    refine s_iload (pc := 81) 5 dX11_agreed_81 rfl ?_
    refine s_iadd (pc := 83) dX11_agreed_83 ?_
    refine x_callV (M := MX11_agreed) (L := [(11, b0, f0, s0), (7, (b0 + 8), f1, s1), (0, b2, f2, s2), (3, b3, f3, s3), (10, (b0 + 50), f4, s4)]) (h := h) (j := 4) (As := [.ref b2, .ref b3, .ref ((b0 + 8) + 15), .int (v1 + v5)]) (st := []) (A := fun (x : RS) => none) (Lc := [(10, (b0 + 50), f4, s4), (0, b2, f2, s2), (3, b3, f3, s3), (7, (b0 + 8), f1, s1)]) (Lr := fun (x : RS) => [(10, (b0 + 50), (va_up (va_up f4 7 (some b2)) 8 (some b3)), x), (0, b2, f2, s2), (3, b3, f3, s3), (7, (b0 + 8), f1, s1)]) (L2 := fun (x : RS) => [(11, b0, f0, s0), (7, (b0 + 8), f1, s1), (0, b2, f2, s2), (3, b3, f3, s3), (10, (b0 + 50), (va_up (va_up f4 7 (some b2)) 8 (some b3)), x)]) cv_X11_382 (by decide) (pc := 84) dX11_agreed_84 ho rfl xc0_10 rfl rfl (Nat.le_of_ble_eq_true rfl) (xovs (L := [(11, b0, f0, s0), (7, (b0 + 8), f1, s1), (0, b2, f2, s2), (3, b3, f3, s3), (10, (b0 + 50), f4, s4)]) (h := h) [(4, (10, (b0 + 50), f4, s4)), (2, (0, b2, f2, s2)), (3, (3, b3, f3, s3)), (1, (7, (b0 + 8), f1, s1))] ho ⟨rfl, rfl, rfl, rfl, trivial⟩).1 (fun x => (xovs (L := [(11, b0, f0, s0), (7, (b0 + 8), f1, s1), (0, b2, f2, s2), (3, b3, f3, s3), (10, (b0 + 50), f4, s4)]) (h := h) [(4, (10, (b0 + 50), (va_up (va_up f4 7 (some b2)) 8 (some b3)), x)), (2, (0, b2, f2, s2)), (3, (3, b3, f3, s3)), (1, (7, (b0 + 8), f1, s1))] ho ⟨rfl, rfl, rfl, rfl, trivial⟩).1) (fun x hx => pX10_run_ok (h := xw [(11, b0, f0, s0), (7, (b0 + 8), f1, s1), (0, b2, f2, s2), (3, b3, f3, s3), (10, (b0 + 50), f4, s4)] h) (f0 := f4) (f1 := f2) (f2 := f3) (f3 := f1) (xok_sub ho [4, 2, 3, 1] rfl (by decide)) s4 s2 s3 s1 (v1 + v5) x hx) rfl (fun x2 _ => ?_)
    refine s_aload_n (pc := 87) 0 dX11_agreed_87 rfl ?_
    refine xg_X11_53 0 ho rfl (pc := 88) dX11_agreed_88 rfl ?_
    refine x_callV (M := MX11_agreed) (L := [(11, b0, f0, s0), (7, (b0 + 8), f1, s1), (0, b2, f2, s2), (3, b3, f3, s3), (10, (b0 + 50), (va_up (va_up f4 7 (some b2)) 8 (some b3)), x2)]) (h := h) (j := 4) (As := []) (st := []) (A := fun (x : Bool) => some (.int (b2i x))) (Lc := [(10, (b0 + 50), (va_up (va_up f4 7 (some b2)) 8 (some b3)), x2), (0, b2, f2, s2), (3, b3, f3, s3)]) (Lr := fun (x : Bool) => [(10, (b0 + 50), (va_up (va_up f4 7 (some b2)) 8 (some b3)), x2), (0, b2, f2, s2), (3, b3, f3, s3)]) (L2 := fun (x : Bool) => [(11, b0, f0, s0), (7, (b0 + 8), f1, s1), (0, b2, f2, s2), (3, b3, f3, s3), (10, (b0 + 50), (va_up (va_up f4 7 (some b2)) 8 (some b3)), x2)]) cv_X11_403 (by decide) (pc := 91) dX11_agreed_91 ho rfl xc0_10 rfl rfl (Nat.le_of_ble_eq_true rfl) (xovs (L := [(11, b0, f0, s0), (7, (b0 + 8), f1, s1), (0, b2, f2, s2), (3, b3, f3, s3), (10, (b0 + 50), (va_up (va_up f4 7 (some b2)) 8 (some b3)), x2)]) (h := h) [(4, (10, (b0 + 50), (va_up (va_up f4 7 (some b2)) 8 (some b3)), x2)), (2, (0, b2, f2, s2)), (3, (3, b3, f3, s3))] ho ⟨rfl, rfl, rfl, trivial⟩).1 (fun x => (xovs (L := [(11, b0, f0, s0), (7, (b0 + 8), f1, s1), (0, b2, f2, s2), (3, b3, f3, s3), (10, (b0 + 50), (va_up (va_up f4 7 (some b2)) 8 (some b3)), x2)]) (h := h) [(4, (10, (b0 + 50), (va_up (va_up f4 7 (some b2)) 8 (some b3)), x2)), (2, (0, b2, f2, s2)), (3, (3, b3, f3, s3))] ho ⟨rfl, rfl, rfl, trivial⟩).1) (fun x hx => pX10_allAlike_ok (h := xw [(11, b0, f0, s0), (7, (b0 + 8), f1, s1), (0, b2, f2, s2), (3, b3, f3, s3), (10, (b0 + 50), (va_up (va_up f4 7 (some b2)) 8 (some b3)), x2)] h) (f0 := (va_up (va_up f4 7 (some b2)) 8 (some b3))) (f1 := f2) (f2 := f3) (xok_sub ho [4, 2, 3] rfl (by decide)) rfl rfl x2 s2 s3 x hx) rfl (fun x3 _ => ?_)
    refine s_if_eqB (tgt := 100) (pc := 94) dX11_agreed_94 (by decide) (fun _ => ?_) (fun _ => ?_)
    · refine s_iincT (pc := 97) 4 (lv' := fun x5 => [(4, .int x5), (0, .ref b0), (1, .int v1), (2, .int v2), (3, .ref b3), (5, .int v5)]) dX11_agreed_97 rfl rfl (by decide) (fun _ => rfl) (fun x5 => ?_)
      refine s_sub [1, 2, 3, 4, 0, 5] rfl ?_
      exact X11_agreed_j100_ok (f4 := (va_up (va_up f4 7 (some b2)) 8 (some b3))) ho hq_1_0 hq_1_1 rfl rfl v1 v2 x5 v5 s0 s1 s2 s3 x2
    · exact X11_agreed_j100_ok (f4 := (va_up (va_up f4 7 (some b2)) 8 (some b3))) ho hq_1_0 hq_1_1 rfl rfl v1 v2 v4 v5 s0 s1 s2 s3 x2
def pX11_agreed (s0 : RS) (s1 : RS) (s2 : RS) (s3 : RS) (s4 : RS) (b0 : Nat) (b2 : Nat) (b3 : Nat) (f4 : Nat → Option Nat) (a0 : Int32) (a1 : Int32) : Option (Int32 × RS × RS × (Nat → Option Nat)) :=
  if a0 < 0 then
    X11_agreed_j24 s0 s1 s2 s3 s4 b0 b2 b3 f4
  else
    if a1 < (1 : Int32) then
      X11_agreed_j24 s0 s1 s2 s3 s4 b0 b2 b3 f4
    else
      if (30 : Int32) < a1 then
        X11_agreed_j24 s0 s1 s2 s3 s4 b0 b2 b3 f4
      else
        if a0 ≤ ((10000 : Int32) - a1) then
          (a_loop (fun (q : Int32 × Int32 × RS × (Nat → Option Nat)) => X11_agreed_b55 a0 a1 q.1 q.2.1 s0 s1 s2 s3 q.2.2.1 b0 b2 b3 q.2.2.2) FU ((0 : Int32), (0 : Int32), s4, f4)).bind fun (t6 : Int32 × RS × (Nat → Option Nat)) =>
            (pX11_tell s0 t6.1).bind fun x7 =>
            some (x7.1, x7.2, t6.2.1, t6.2.2)
        else
          X11_agreed_j24 s0 s1 s2 s3 s4 b0 b2 b3 f4
theorem pX11_agreed_w (ho : xok [(11, b0), (7, (b0 + 8)), (0, b2), (3, b3), (10, (b0 + 50))] h.2.1) (hq_1_0 : f1 0 = some b2) (hq_1_1 : f1 1 = some b3) (s0 : RS) (s1 : RS) (s2 : RS) (s3 : RS) (s4 : RS) (a0 : Int32) (a1 : Int32) : aS l 6 MX11_agreed n0 S0 (oΦ (fun (x : Int32 × RS × RS × (Nat → Option Nat)) => ((some (.int x.1)), xw [(11, b0, f0, x.2.1), (7, (b0 + 8), f1, s1), (0, b2, f2, s2), (3, b3, f3, s3), (10, (b0 + 50), x.2.2.2, x.2.2.1)] h))) 0 [(0, .ref b0), (1, .int a0), (2, .int a1)] [] (xw [(11, b0, f0, s0), (7, (b0 + 8), f1, s1), (0, b2, f2, s2), (3, b3, f3, s3), (10, (b0 + 50), f4, s4)] h) (pX11_agreed s0 s1 s2 s3 s4 b0 b2 b3 f4 a0 a1) := by
  unfold pX11_agreed
  refine s_iload_n (pc := 0) 1 dX11_agreed_0 rfl ?_
  refine s_if_lt (tgt := 24) (pc := 1) dX11_agreed_1 (by decide) (fun _ => ?_) (fun _ => ?_)
  · refine s_sub [0] rfl ?_
    exact X11_agreed_j24_ok ho hq_1_0 hq_1_1 s0 s1 s2 s3 s4
  · refine s_iload_n (pc := 4) 2 dX11_agreed_4 rfl ?_
    refine s_iconst (v := 1) (pc := 5) dX11_agreed_5 (by decide) ?_
    refine s_icmp_lt (tgt := 24) (pc := 6) dX11_agreed_6 (by decide) (fun _ => ?_) (fun _ => ?_)
    · refine s_sub [0] rfl ?_
      exact X11_agreed_j24_ok ho hq_1_0 hq_1_1 s0 s1 s2 s3 s4
    · refine s_iload_n (pc := 9) 2 dX11_agreed_9 rfl ?_
      refine s_bipush (v := 30) (pc := 10) dX11_agreed_10 (by decide) ?_
      refine s_icmp_gt (tgt := 24) (pc := 12) dX11_agreed_12 (by decide) (fun _ => ?_) (fun _ => ?_)
      · refine s_sub [0] rfl ?_
        exact X11_agreed_j24_ok ho hq_1_0 hq_1_1 s0 s1 s2 s3 s4
      · refine s_iload_n (pc := 15) 1 dX11_agreed_15 rfl ?_
        refine s_sipush (v := 10000) (pc := 16) dX11_agreed_16 (by decide) ?_
        refine s_iload_n (pc := 19) 2 dX11_agreed_19 rfl ?_
        refine s_isub (pc := 20) dX11_agreed_20 ?_
        refine s_icmp_le (tgt := 30) (pc := 21) dX11_agreed_21 (by decide) (fun _ => ?_) (fun _ => ?_)
        · refine s_aload_n (pc := 30) 0 dX11_agreed_30 rfl ?_
          refine xg_X11_25 0 ho rfl (pc := 31) dX11_agreed_31 rfl ?_
          refine xg_X11_185 1 ho rfl (pc := 34) dX11_agreed_34 rfl hq_1_1 ?_
          refine s_astore_n (lv' := [(3, .ref b3), (0, .ref b0), (1, .int a0), (2, .int a1)]) (pc := 37) dX11_agreed_37 (by decide) rfl ?_
          refine s_aload_n (pc := 38) 0 dX11_agreed_38 rfl ?_
          refine s_refJ (tgt := 49) (pc := 39) dX11_agreed_39 (by decide) ?_
          refine s_iconst (v := 0) (pc := 49) dX11_agreed_49 (by decide) ?_
          refine s_istore (lv' := [(4, .int 0), (3, .ref b3), (0, .ref b0), (1, .int a0), (2, .int a1)]) (pc := 50) dX11_agreed_50 (by decide) rfl ?_
          refine s_iconst (v := 0) (pc := 52) dX11_agreed_52 (by decide) ?_
          refine s_istore (lv' := [(5, .int 0), (4, .int 0), (3, .ref b3), (0, .ref b0), (1, .int a0), (2, .int a1)]) (pc := 53) dX11_agreed_53 (by decide) rfl ?_
          refine s_bind (Ψ := X11_agreed_x55 l n0 S0 h b0 b2 b3 f0 f1 f2 f3 f4 a0 a1 s0 s1 s2 s3) ?_ ?_
          · refine s_sub [3, 4, 5, 2, 1, 0] rfl ?_
            exact s_loop (lvf := fun (q : Int32 × Int32 × RS × (Nat → Option Nat)) => [(0, .ref b0), (1, .int a0), (2, .int a1), (3, .ref b3), (4, .int q.1), (5, .int q.2.1)]) (stf := fun _ => []) (hf := fun (q : Int32 × Int32 × RS × (Nat → Option Nat)) => xw [(11, b0, f0, s0), (7, (b0 + 8), f1, s1), (0, b2, f2, s2), (3, b3, f3, s3), (10, (b0 + 50), q.2.2.2, q.2.2.1)] h) (fun q => X11_agreed_b55_ok (f4 := q.2.2.2) ho hq_1_0 hq_1_1 a0 a1 q.1 q.2.1 s0 s1 s2 s3 q.2.2.1) FU ((0 : Int32), (0 : Int32), s4, f4)
          · intro t6 z r h' hz hr
            refine (?_ : aS l 6 MX11_agreed n0 S0 (oΦ (fun (x : Int32 × RS × RS × (Nat → Option Nat)) => ((some (.int x.1)), xw [(11, b0, f0, x.2.1), (7, (b0 + 8), f1, s1), (0, b2, f2, s2), (3, b3, f3, s3), (10, (b0 + 50), x.2.2.2, x.2.2.1)] h))) 106 [(0, .ref b0), (4, .int t6.1)] [] (xw [(11, b0, f0, s0), (7, (b0 + 8), f1, s1), (0, b2, f2, s2), (3, b3, f3, s3), (10, (b0 + 50), t6.2.2, t6.2.1)] h) _) z hz r h' hr
            refine s_aload_n (pc := 106) 0 dX11_agreed_106 rfl ?_
            refine s_iload (pc := 107) 1 dX11_agreed_107 rfl ?_
            refine x_callV (M := MX11_agreed) (L := [(11, b0, f0, s0), (7, (b0 + 8), f1, s1), (0, b2, f2, s2), (3, b3, f3, s3), (10, (b0 + 50), t6.2.2, t6.2.1)]) (h := h) (j := 0) (As := [.int t6.1]) (st := []) (A := fun (x : Int32 × RS) => some (.int x.1)) (Lc := [(11, b0, f0, s0)]) (Lr := fun (x : Int32 × RS) => [(11, b0, f0, x.2)]) (L2 := fun (x : Int32 × RS) => [(11, b0, f0, x.2), (7, (b0 + 8), f1, s1), (0, b2, f2, s2), (3, b3, f3, s3), (10, (b0 + 50), t6.2.2, t6.2.1)]) cv_X11_169 (by decide) (pc := 109) dX11_agreed_109 ho rfl xc0_11 rfl rfl (Nat.le_of_ble_eq_true rfl) (xovs (L := [(11, b0, f0, s0), (7, (b0 + 8), f1, s1), (0, b2, f2, s2), (3, b3, f3, s3), (10, (b0 + 50), t6.2.2, t6.2.1)]) (h := h) [(0, (11, b0, f0, s0))] ho ⟨rfl, trivial⟩).1 (fun x => (xovs (L := [(11, b0, f0, s0), (7, (b0 + 8), f1, s1), (0, b2, f2, s2), (3, b3, f3, s3), (10, (b0 + 50), t6.2.2, t6.2.1)]) (h := h) [(0, (11, b0, f0, x.2))] ho ⟨rfl, trivial⟩).1) (fun x hx => pX11_tell_ok (h := xw [(11, b0, f0, s0), (7, (b0 + 8), f1, s1), (0, b2, f2, s2), (3, b3, f3, s3), (10, (b0 + 50), t6.2.2, t6.2.1)] h) (f0 := f0) (xok_sub ho [0] rfl (by decide)) s0 t6.1 x hx) rfl (fun x7 _ => ?_)
            exact s_iret (pc := 112) dX11_agreed_112 rfl (fun _ _ q => q)
        · refine s_sub [0] rfl ?_
          exact X11_agreed_j24_ok ho hq_1_0 hq_1_1 s0 s1 s2 s3 s4
theorem pX11_agreed_ok (ho : xok [(11, b0), (7, (b0 + 8)), (0, b2), (3, b3), (10, (b0 + 50))] h.2.1) (hq_1_0 : f1 0 = some b2) (hq_1_1 : f1 1 = some b3) (s0 : RS) (s1 : RS) (s2 : RS) (s3 : RS) (s4 : RS) (a0 : Int32) (a1 : Int32) : ∀ x, pX11_agreed s0 s1 s2 s3 s4 b0 b2 b3 f4 a0 a1 = some x → aMet l 6 yX11_agreed cX11_agreed 6 (some .int) [.ref b0, .int a0, .int a1] (xw [(11, b0, f0, s0), (7, (b0 + 8), f1, s1), (0, b2, f2, s2), (3, b3, f3, s3), (10, (b0 + 50), f4, s4)] h) (some (.int x.1)) (xw [(11, b0, f0, x.2.1), (7, (b0 + 8), f1, s1), (0, b2, f2, s2), (3, b3, f3, s3), (10, (b0 + 50), x.2.2.2, x.2.2.1)] h) := fun x hx => a_meth (ini := false) (y := yX11_agreed) (by decide +kernel) (fun q => by cases q) (fun _ => Nat.le_of_ble_eq_true rfl) (pX11_agreed_w ho hq_1_0 hq_1_1 s0 s1 s2 s3 s4 a0 a1) x hx _ _ ⟨rfl, rfl⟩
end
