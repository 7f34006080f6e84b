section
variable {l : Launch} {n0 S0 : Nat} {h : aH} {b0 : Nat} {f0 : Nat → Option Nat}
abbrev MX11_tellLong : aM := (cX11_tellLong, RX11, 3, (some .long), false)
def pX11_tellLong (s0 : RS) (a0 : Int64) : Option (Int64 × RS) :=
  thn (uI s0 11 (0 : Int32)) fun s_1 =>
  some (a0, s_1)
theorem pX11_tellLong_w (ho : xok [(11, b0)] h.2.1) (s0 : RS) (a0 : Int64) : aS l 0 MX11_tellLong n0 S0 (oΦ (fun (x : Int64 × RS) => ((some (.long x.1)), xw [(11, b0, f0, x.2)] h))) 0 [(0, .ref b0), (1, .long a0)] [] (xw [(11, b0, f0, s0)] h) (pX11_tellLong s0 a0) := by
  unfold pX11_tellLong
  refine s_aload_n (pc := 0) 0 dX11_tellLong_0 rfl ?_
  refine s_iconst (v := 0) (pc := 1) dX11_tellLong_1 (by decide) ?_
  refine xp_X11_69 (L' := fun s_1 => [(11, b0, f0, s_1)]) 0 ho rfl (fun _ => rfl) (pc := 2) dX11_tellLong_2 rfl (fun s_1 => ?_)
  refine s_lload_n (pc := 5) 1 dX11_tellLong_5 rfl ?_
  exact s_lret (pc := 6) dX11_tellLong_6 rfl (fun _ _ q => q)
theorem pX11_tellLong_ok (ho : xok [(11, b0)] h.2.1) (s0 : RS) (a0 : Int64) : ∀ x, pX11_tellLong s0 a0 = some x → aMet l 0 yX11_tellLong cX11_tellLong 3 (some .long) [.ref b0, .long a0] (xw [(11, b0, f0, s0)] h) (some (.long x.1)) (xw [(11, b0, f0, x.2)] h) := fun x hx => a_meth (ini := false) (y := yX11_tellLong) (by decide +kernel) (fun q => by cases q) (fun _ => Nat.le_of_ble_eq_true rfl) (pX11_tellLong_w ho s0 a0) x hx _ _ ⟨rfl, rfl⟩
end
section
variable {l : Launch} {n0 S0 : Nat} {h : aH} {b0 : Nat} {f0 : Nat → Option Nat}
abbrev MX11_refuse : aM := (cX11_refuse, RX11, 2, (some .int), false)
def pX11_refuse (s0 : RS) (a0 : Int32) : Option (Int32 × RS) :=
  thn (uI s0 11 a0) fun s_1 =>
  some ((-1 : Int32), s_1)
theorem pX11_refuse_w (ho : xok [(11, b0)] h.2.1) (s0 : RS) (a0 : Int32) : aS l 0 MX11_refuse n0 S0 (oΦ (fun (x : Int32 × RS) => ((some (.int x.1)), xw [(11, b0, f0, x.2)] h))) 0 [(0, .ref b0), (1, .int a0)] [] (xw [(11, b0, f0, s0)] h) (pX11_refuse s0 a0) := by
  unfold pX11_refuse
  refine s_aload_n (pc := 0) 0 dX11_refuse_0 rfl ?_
  refine s_iload_n (pc := 1) 1 dX11_refuse_1 rfl ?_
  refine xp_X11_69 (L' := fun s_1 => [(11, b0, f0, s_1)]) 0 ho rfl (fun _ => rfl) (pc := 2) dX11_refuse_2 rfl (fun s_1 => ?_)
  refine s_iconst (v := (-1)) (pc := 5) dX11_refuse_5 (by decide) ?_
  exact s_iret (pc := 6) dX11_refuse_6 rfl (fun _ _ q => q)
theorem pX11_refuse_ok (ho : xok [(11, b0)] h.2.1) (s0 : RS) (a0 : Int32) : ∀ x, pX11_refuse s0 a0 = some x → aMet l 0 yX11_refuse cX11_refuse 2 (some .int) [.ref b0, .int a0] (xw [(11, b0, f0, s0)] h) (some (.int x.1)) (xw [(11, b0, f0, x.2)] h) := fun x hx => a_meth (ini := false) (y := yX11_refuse) (by decide +kernel) (fun q => by cases q) (fun _ => Nat.le_of_ble_eq_true rfl) (pX11_refuse_w ho s0 a0) x hx _ _ ⟨rfl, rfl⟩
end
section
variable {l : Launch} {n0 S0 : Nat} {h : aH} {b0 : Nat} {f0 : Nat → Option Nat}
abbrev MX11_grant : aM := (cX11_grant, RX11, 1, (some .boolean), false)
def pX11_grant (s0 : RS) : Option (Bool × RS) :=
  thn (uI s0 11 (0 : Int32)) fun s_1 =>
  some (true, s_1)
theorem pX11_grant_w (ho : xok [(11, b0)] h.2.1) (s0 : RS) : aS l 0 MX11_grant n0 S0 (oΦ (fun (x : Bool × RS) => ((some (.int (b2i x.1))), xw [(11, b0, f0, x.2)] h))) 0 [(0, .ref b0)] [] (xw [(11, b0, f0, s0)] h) (pX11_grant s0) := by
  unfold pX11_grant
  refine s_aload_n (pc := 0) 0 dX11_grant_0 rfl ?_
  refine s_iconst (v := 0) (pc := 1) dX11_grant_1 (by decide) ?_
  refine xp_X11_69 (L' := fun s_1 => [(11, b0, f0, s_1)]) 0 ho rfl (fun _ => rfl) (pc := 2) dX11_grant_2 rfl (fun s_1 => ?_)
  refine s_iconst (v := 1) (pc := 5) dX11_grant_5 (by decide) ?_
  exact s_zretB (b := true) (pc := 6) dX11_grant_6 rfl (fun _ _ q => q)
theorem pX11_grant_ok (ho : xok [(11, b0)] h.2.1) (s0 : RS) : ∀ x, pX11_grant s0 = some x → aMet l 0 yX11_grant cX11_grant 1 (some .boolean) [.ref b0] (xw [(11, b0, f0, s0)] h) (some (.int (b2i x.1))) (xw [(11, b0, f0, x.2)] h) := fun x hx => a_meth (ini := false) (y := yX11_grant) (by decide +kernel) (fun q => by cases q) (fun _ => Nat.le_of_ble_eq_true rfl) (pX11_grant_w ho s0) x hx _ _ ⟨rfl, rfl⟩
end
section
variable {l : Launch} {n0 S0 : Nat} {h : aH} {b0 : Nat} {f0 : Nat → Option Nat}
abbrev MX11_deny : aM := (cX11_deny, RX11, 2, (some .boolean), false)
def pX11_deny (s0 : RS) (a0 : Int32) : Option (Bool × RS) :=
  thn (uI s0 11 a0) fun s_1 =>
  some (false, s_1)
theorem pX11_deny_w (ho : xok [(11, b0)] h.2.1) (s0 : RS) (a0 : Int32) : aS l 0 MX11_deny n0 S0 (oΦ (fun (x : Bool × RS) => ((some (.int (b2i x.1))), xw [(11, b0, f0, x.2)] h))) 0 [(0, .ref b0), (1, .int a0)] [] (xw [(11, b0, f0, s0)] h) (pX11_deny s0 a0) := by
  unfold pX11_deny
  refine s_aload_n (pc := 0) 0 dX11_deny_0 rfl ?_
  refine s_iload_n (pc := 1) 1 dX11_deny_1 rfl ?_
  refine xp_X11_69 (L' := fun s_1 => [(11, b0, f0, s_1)]) 0 ho rfl (fun _ => rfl) (pc := 2) dX11_deny_2 rfl (fun s_1 => ?_)
  refine s_iconst (v := 0) (pc := 5) dX11_deny_5 (by decide) ?_
  exact s_zretB (b := false) (pc := 6) dX11_deny_6 rfl (fun _ _ q => q)
theorem pX11_deny_ok (ho : xok [(11, b0)] h.2.1) (s0 : RS) (a0 : Int32) : ∀ x, pX11_deny s0 a0 = some x → aMet l 0 yX11_deny cX11_deny 2 (some .boolean) [.ref b0, .int a0] (xw [(11, b0, f0, s0)] h) (some (.int (b2i x.1))) (xw [(11, b0, f0, x.2)] h) := fun x hx => a_meth (ini := false) (y := yX11_deny) (by decide +kernel) (fun q => by cases q) (fun _ => Nat.le_of_ble_eq_true rfl) (pX11_deny_w ho s0 a0) x hx _ _ ⟨rfl, rfl⟩
end
section
variable {l : Launch} {n0 S0 : Nat} {h : aH}
abbrev MX11_isTray : aM := (cX11_isTray, RX11, 1, (some .boolean), false)
def pX11_isTray (a0 : Int32) : Option Bool :=
  if a0 < 0 then
    some false
  else
    if (4 : Int32) ≤ a0 then
      some false
    else
      some true
theorem pX11_isTray_w (a0 : Int32) : aS l 0 MX11_isTray n0 S0 (oΦ (fun (x : Bool) => ((some (.int (b2i x))), h))) 0 [(0, .int a0)] [] (h) (pX11_isTray a0) := by
  unfold pX11_isTray
  refine s_iload_n (pc := 0) 0 dX11_isTray_0 rfl ?_
  refine s_if_lt (tgt := 13) (pc := 1) dX11_isTray_1 (by decide) (fun _ => ?_) (fun _ => ?_)
  · refine s_iconst (v := 0) (pc := 13) dX11_isTray_13 (by decide) ?_
    exact s_zretB (b := false) (pc := 14) dX11_isTray_14 rfl (fun _ _ q => q)
  · refine s_iload_n (pc := 4) 0 dX11_isTray_4 rfl ?_
    refine s_iconst (v := 4) (pc := 5) dX11_isTray_5 (by decide) ?_
    refine s_icmp_ge (tgt := 13) (pc := 6) dX11_isTray_6 (by decide) (fun _ => ?_) (fun _ => ?_)
    · refine s_iconst (v := 0) (pc := 13) dX11_isTray_13 (by decide) ?_
      exact s_zretB (b := false) (pc := 14) dX11_isTray_14 rfl (fun _ _ q => q)
    · refine s_iconst (v := 1) (pc := 9) dX11_isTray_9 (by decide) ?_
      refine s_goto (tgt := 14) (pc := 10) dX11_isTray_10 (by decide) ?_
      exact s_zretB (b := true) (pc := 14) dX11_isTray_14 rfl (fun _ _ q => q)
theorem pX11_isTray_ok (a0 : Int32) : ∀ x, pX11_isTray a0 = some x → aMet l 0 yX11_isTray cX11_isTray 1 (some .boolean) [.int a0] (h) (some (.int (b2i x))) (h) := fun x hx => a_meth (ini := false) (y := yX11_isTray) (by decide +kernel) (fun q => by cases q) (fun _ => Nat.le_of_ble_eq_true rfl) (pX11_isTray_w a0) x hx _ _ ⟨rfl, rfl⟩
end
section
variable {l : Launch} {n0 S0 : Nat} {h : aH} {b0 b1 : Nat} {f0 f1 : Nat → Option Nat} {a0 : Int32}
abbrev MX11_faultOfPlace : aM := (cX11_faultOfPlace, RX11, 3, (some .int), false)
def pX11_faultOfPlace (s0 : RS) (s1 : RS) (a0 : Int32) (a1 : Int32) : Option Int32 :=
  (pX11_isTray a0).bind fun x1 =>
  if x1 = true then
    g_in a0 4 (
    (pX9_isMissing s1).bind fun x2 =>
    if x2 = true then
      some (3 : Int32)
    else
      g_in a0 4 (
      (pX9_spans s1 a1 (1 : Int32)).bind fun x3 =>
      if x3 = true then
        some (0 : Int32)
      else
        some (4 : Int32)))
  else
    some (1 : Int32)
theorem pX11_faultOfPlace_w (ho : xok [(11, b0), (9, b1)] h.2.1) (ht_a0 : vp_in a0 4 → b0 + 79 + 2 * a0.toNatClampNeg = b1) (s0 : RS) (s1 : RS) (a1 : Int32) : aS l 1 MX11_faultOfPlace n0 S0 (oΦ (fun (x : Int32) => ((some (.int x)), xw [(11, b0, f0, s0), (9, b1, f1, s1)] h))) 0 [(0, .ref b0), (1, .int a0), (2, .int a1)] [] (xw [(11, b0, f0, s0), (9, b1, f1, s1)] h) (pX11_faultOfPlace s0 s1 a0 a1) := by
  unfold pX11_faultOfPlace
  refine s_iload_n (pc := 0) 1 dX11_faultOfPlace_0 rfl ?_
  refine s_callS (M := MX11_faultOfPlace) (As := [.int a0]) (st := []) (Ψ := fun (x : Bool) => (some (.int (b2i x)), xw [(11, b0, f0, s0), (9, b1, f1, s1)] h)) cs_X11_80 (by decide) (pc := 1) dX11_faultOfPlace_1 rfl (Nat.le_of_ble_eq_true rfl) (fun x hx => pX11_isTray_ok a0 x hx) rfl (fun x1 _ => ?_)
  refine s_if_neB (tgt := 9) (pc := 4) dX11_faultOfPlace_4 (by decide) (fun _ => ?_) (fun _ => ?_)
  · refine s_aload_n (pc := 9) 0 dX11_faultOfPlace_9 rfl ?_
    refine xg_X11_11 0 ho rfl (pc := 10) dX11_faultOfPlace_10 rfl ?_
    refine s_iload_n (pc := 13) 1 dX11_faultOfPlace_13 rfl ?_
    refine x_trays 0 ho rfl ht_a0 (pc := 14) dX11_faultOfPlace_14 ?_
    refine x_callV (M := MX11_faultOfPlace) (L := [(11, b0, f0, s0), (9, b1, f1, s1)]) (h := h) (j := 1) (As := []) (st := []) (A := fun (x : Bool) => some (.int (b2i x))) (Lc := [(9, b1, f1, s1)]) (Lr := fun (x : Bool) => [(9, b1, f1, s1)]) (L2 := fun (x : Bool) => [(11, b0, f0, s0), (9, b1, f1, s1)]) cv_X11_84 (by decide) (pc := 15) dX11_faultOfPlace_15 ho rfl xc0_9 rfl rfl (Nat.le_of_ble_eq_true rfl) (xovs (L := [(11, b0, f0, s0), (9, b1, f1, s1)]) (h := h) [(1, (9, b1, f1, s1))] ho ⟨rfl, trivial⟩).1 (fun x => (xovs (L := [(11, b0, f0, s0), (9, b1, f1, s1)]) (h := h) [(1, (9, b1, f1, s1))] ho ⟨rfl, trivial⟩).1) (fun x hx => pX9_isMissing_ok (h := xw [(11, b0, f0, s0), (9, b1, f1, s1)] h) (f0 := f1) (xok_sub ho [1] rfl (by decide)) s1 x hx) rfl (fun x2 _ => ?_)
    refine s_if_eqB (tgt := 23) (pc := 18) dX11_faultOfPlace_18 (by decide) (fun _ => ?_) (fun _ => ?_)
    · refine s_iconst (v := 3) (pc := 21) dX11_faultOfPlace_21 (by decide) ?_
      exact s_iret (pc := 22) dX11_faultOfPlace_22 rfl (fun _ _ q => q)
    · refine s_aload_n (pc := 23) 0 dX11_faultOfPlace_23 rfl ?_
      refine xg_X11_11 0 ho rfl (pc := 24) dX11_faultOfPlace_24 rfl ?_
      refine s_iload_n (pc := 27) 1 dX11_faultOfPlace_27 rfl ?_
      refine x_trays 0 ho rfl ht_a0 (pc := 28) dX11_faultOfPlace_28 ?_
      refine s_iload_n (pc := 29) 2 dX11_faultOfPlace_29 rfl ?_
      refine s_iconst (v := 1) (pc := 30) dX11_faultOfPlace_30 (by decide) ?_
      refine x_callV (M := MX11_faultOfPlace) (L := [(11, b0, f0, s0), (9, b1, f1, s1)]) (h := h) (j := 1) (As := [.int a1, .int 1]) (st := []) (A := fun (x : Bool) => some (.int (b2i x))) (Lc := [(9, b1, f1, s1)]) (Lr := fun (x : Bool) => [(9, b1, f1, s1)]) (L2 := fun (x : Bool) => [(11, b0, f0, s0), (9, b1, f1, s1)]) cv_X11_88 (by decide) (pc := 31) dX11_faultOfPlace_31 ho rfl xc0_9 rfl rfl (Nat.le_of_ble_eq_true rfl) (xovs (L := [(11, b0, f0, s0), (9, b1, f1, s1)]) (h := h) [(1, (9, b1, f1, s1))] ho ⟨rfl, trivial⟩).1 (fun x => (xovs (L := [(11, b0, f0, s0), (9, b1, f1, s1)]) (h := h) [(1, (9, b1, f1, s1))] ho ⟨rfl, trivial⟩).1) (fun x hx => pX9_spans_ok (h := xw [(11, b0, f0, s0), (9, b1, f1, s1)] h) (f0 := f1) (xok_sub ho [1] rfl (by decide)) s1 a1 (1 : Int32) x hx) rfl (fun x3 _ => ?_)
      refine s_if_eqB (tgt := 41) (pc := 34) dX11_faultOfPlace_34 (by decide) (fun _ => ?_) (fun _ => ?_)
      · refine s_iconst (v := 0) (pc := 37) dX11_faultOfPlace_37 (by decide) ?_
        refine s_goto (tgt := 42) (pc := 38) dX11_faultOfPlace_38 (by decide) ?_
        exact s_iret (pc := 42) dX11_faultOfPlace_42 rfl (fun _ _ q => q)
      · refine s_iconst (v := 4) (pc := 41) dX11_faultOfPlace_41 (by decide) ?_
        exact s_iret (pc := 42) dX11_faultOfPlace_42 rfl (fun _ _ q => q)
  · refine s_iconst (v := 1) (pc := 7) dX11_faultOfPlace_7 (by decide) ?_
    exact s_iret (pc := 8) dX11_faultOfPlace_8 rfl (fun _ _ q => q)
theorem pX11_faultOfPlace_ok (ho : xok [(11, b0), (9, b1)] h.2.1) (ht_a0 : vp_in a0 4 → b0 + 79 + 2 * a0.toNatClampNeg = b1) (s0 : RS) (s1 : RS) (a1 : Int32) : ∀ x, pX11_faultOfPlace s0 s1 a0 a1 = some x → aMet l 1 yX11_faultOfPlace cX11_faultOfPlace 3 (some .int) [.ref b0, .int a0, .int a1] (xw [(11, b0, f0, s0), (9, b1, f1, s1)] h) (some (.int x)) (xw [(11, b0, f0, s0), (9, b1, f1, s1)] h) := fun x hx => a_meth (ini := false) (y := yX11_faultOfPlace) (by decide +kernel) (fun q => by cases q) (fun _ => Nat.le_of_ble_eq_true rfl) (pX11_faultOfPlace_w ho ht_a0 s0 s1 a1) x hx _ _ ⟨rfl, rfl⟩
end
section
variable {l : Launch} {n0 S0 : Nat} {h : aH} {b0 b1 : Nat} {f0 f1 : Nat → Option Nat} {a0 : Int32}
abbrev MX11_tray : aM := (cX11_tray, RX11, 4, (some .boolean), false)
def X11_tray_j14 (s0 : RS) (s1 : RS) : Option (Bool × RS × RS) :=
  (pX11_deny s0 (1 : Int32)).bind fun x2 =>
  some (x2.1, x2.2, s1)
theorem X11_tray_j14_ok (ho : xok [(11, b0), (9, b1)] h.2.1) (ht_a0 : vp_in a0 4 → b0 + 79 + 2 * a0.toNatClampNeg = b1) (s0 : RS) (s1 : RS) : aS l 1 MX11_tray n0 S0 (oΦ (fun (x : Bool × RS × RS) => ((some (.int (b2i x.1))), xw [(11, b0, f0, x.2.1), (9, b1, f1, x.2.2)] h))) 14 [(0, .ref b0)] [] (xw [(11, b0, f0, s0), (9, b1, f1, s1)] h) (X11_tray_j14 s0 s1) := by
  unfold X11_tray_j14
  refine s_aload_n (pc := 14) 0 dX11_tray_14 rfl ?_
  refine s_iconst (v := 1) (pc := 15) dX11_tray_15 (by decide) ?_
  refine x_callV (M := MX11_tray) (L := [(11, b0, f0, s0), (9, b1, f1, s1)]) (h := h) (j := 0) (As := [.int 1]) (st := []) (A := fun (x : Bool × RS) => some (.int (b2i x.1))) (Lc := [(11, b0, f0, s0)]) (Lr := fun (x : Bool × RS) => [(11, b0, f0, x.2)]) (L2 := fun (x : Bool × RS) => [(11, b0, f0, x.2), (9, b1, f1, s1)]) cv_X11_95 (by decide) (pc := 16) dX11_tray_16 ho rfl xc0_11 rfl rfl (Nat.le_of_ble_eq_true rfl) (xovs (L := [(11, b0, f0, s0), (9, b1, f1, s1)]) (h := h) [(0, (11, b0, f0, s0))] ho ⟨rfl, trivial⟩).1 (fun x => (xovs (L := [(11, b0, f0, s0), (9, b1, f1, s1)]) (h := h) [(0, (11, b0, f0, x.2))] ho ⟨rfl, trivial⟩).1) (fun x hx => pX11_deny_ok (h := xw [(11, b0, f0, s0), (9, b1, f1, s1)] h) (f0 := f0) (xok_sub ho [0] rfl (by decide)) s0 (1 : Int32) x hx) rfl (fun x2 _ => ?_)
  exact s_zretB (b := x2.1) (pc := 19) dX11_tray_19 rfl (fun _ _ q => q)
def pX11_tray (s0 : RS) (s1 : RS) (a0 : Int32) (a1 : Int32) (a2 : Int32) : Option (Bool × RS × RS) :=
  (pX11_isTray a0).bind fun x1 =>
  if x1 = true then
    (pX9_isSort a1).bind fun x3 =>
    if x3 = true then
      if a2 ≤ (60 : Int32) then
        if 0 ≤ a2 then
          g_in a0 4 (
          (pX9_layOut s1 a1 a2).bind fun x4 =>
          (pX11_grant s0).bind fun x5 =>
          some (x5.1, x5.2, x4))
        else
          (pX11_deny s0 (6 : Int32)).bind fun x6 =>
          some (x6.1, x6.2, s1)
      else
        (pX11_deny s0 (5 : Int32)).bind fun x7 =>
        some (x7.1, x7.2, s1)
    else
      X11_tray_j14 s0 s1
  else
    X11_tray_j14 s0 s1
theorem pX11_tray_w (ho : xok [(11, b0), (9, b1)] h.2.1) (ht_a0 : vp_in a0 4 → b0 + 79 + 2 * a0.toNatClampNeg = b1) (s0 : RS) (s1 : RS) (a1 : Int32) (a2 : Int32) : aS l 1 MX11_tray n0 S0 (oΦ (fun (x : Bool × RS × RS) => ((some (.int (b2i x.1))), xw [(11, b0, f0, x.2.1), (9, b1, f1, x.2.2)] h))) 0 [(0, .ref b0), (1, .int a0), (2, .int a1), (3, .int a2)] [] (xw [(11, b0, f0, s0), (9, b1, f1, s1)] h) (pX11_tray s0 s1 a0 a1 a2) := by
  unfold pX11_tray
  refine s_iload_n (pc := 0) 1 dX11_tray_0 rfl ?_
  refine s_callS (M := MX11_tray) (As := [.int a0]) (st := []) (Ψ := fun (x : Bool) => (some (.int (b2i x)), xw [(11, b0, f0, s0), (9, b1, f1, s1)] h)) cs_X11_80 (by decide) (pc := 1) dX11_tray_1 rfl (Nat.le_of_ble_eq_true rfl) (fun x hx => pX11_isTray_ok a0 x hx) rfl (fun x1 _ => ?_)
  refine s_if_eqB (tgt := 14) (pc := 4) dX11_tray_4 (by decide) (fun _ => ?_) (fun _ => ?_)
  · refine s_iload_n (pc := 7) 2 dX11_tray_7 rfl ?_
    refine s_callS (M := MX11_tray) (As := [.int a1]) (st := []) (Ψ := fun (x : Bool) => (some (.int (b2i x)), xw [(11, b0, f0, s0), (9, b1, f1, s1)] h)) cs_X11_92 (by decide) (pc := 8) dX11_tray_8 rfl (Nat.le_of_ble_eq_true rfl) (fun x hx => pX9_isSort_ok a1 x hx) rfl (fun x3 _ => ?_)
    refine s_if_neB (tgt := 20) (pc := 11) dX11_tray_11 (by decide) (fun _ => ?_) (fun _ => ?_)
    · refine s_iload_n (pc := 20) 3 dX11_tray_20 rfl ?_
      refine s_bipush (v := 60) (pc := 21) dX11_tray_21 (by decide) ?_
      refine s_icmp_le (tgt := 32) (pc := 23) dX11_tray_23 (by decide) (fun _ => ?_) (fun _ => ?_)
      · refine s_iload_n (pc := 32) 3 dX11_tray_32 rfl ?_
        refine s_if_ge (tgt := 43) (pc := 33) dX11_tray_33 (by decide) (fun _ => ?_) (fun _ => ?_)
        · refine s_aload_n (pc := 43) 0 dX11_tray_43 rfl ?_
          refine xg_X11_11 0 ho rfl (pc := 44) dX11_tray_44 rfl ?_
          refine s_iload_n (pc := 47) 1 dX11_tray_47 rfl ?_
          refine x_trays 0 ho rfl ht_a0 (pc := 48) dX11_tray_48 ?_
          refine s_iload_n (pc := 49) 2 dX11_tray_49 rfl ?_
          refine s_iload_n (pc := 50) 3 dX11_tray_50 rfl ?_
          refine x_callV (M := MX11_tray) (L := [(11, b0, f0, s0), (9, b1, f1, s1)]) (h := h) (j := 1) (As := [.int a1, .int a2]) (st := []) (A := fun (x : RS) => none) (Lc := [(9, b1, f1, s1)]) (Lr := fun (x : RS) => [(9, b1, f1, x)]) (L2 := fun (x : RS) => [(11, b0, f0, s0), (9, b1, f1, x)]) cv_X11_98 (by decide) (pc := 51) dX11_tray_51 ho rfl xc0_9 rfl rfl (Nat.le_of_ble_eq_true rfl) (xovs (L := [(11, b0, f0, s0), (9, b1, f1, s1)]) (h := h) [(1, (9, b1, f1, s1))] ho ⟨rfl, trivial⟩).1 (fun x => (xovs (L := [(11, b0, f0, s0), (9, b1, f1, s1)]) (h := h) [(1, (9, b1, f1, x))] ho ⟨rfl, trivial⟩).1) (fun x hx => pX9_layOut_ok (h := xw [(11, b0, f0, s0), (9, b1, f1, s1)] h) (f0 := f1) (xok_sub ho [1] rfl (by decide)) s1 a1 a2 x hx) rfl (fun x4 _ => ?_)
          refine s_aload_n (pc := 54) 0 dX11_tray_54 rfl ?_
          refine x_callV (M := MX11_tray) (L := [(11, b0, f0, s0), (9, b1, f1, x4)]) (h := h) (j := 0) (As := []) (st := []) (A := fun (x : Bool × RS) => some (.int (b2i x.1))) (Lc := [(11, b0, f0, s0)]) (Lr := fun (x : Bool × RS) => [(11, b0, f0, x.2)]) (L2 := fun (x : Bool × RS) => [(11, b0, f0, x.2), (9, b1, f1, x4)]) cv_X11_102 (by decide) (pc := 55) dX11_tray_55 ho rfl xc0_11 rfl rfl (Nat.le_of_ble_eq_true rfl) (xovs (L := [(11, b0, f0, s0), (9, b1, f1, x4)]) (h := h) [(0, (11, b0, f0, s0))] ho ⟨rfl, trivial⟩).1 (fun x => (xovs (L := [(11, b0, f0, s0), (9, b1, f1, x4)]) (h := h) [(0, (11, b0, f0, x.2))] ho ⟨rfl, trivial⟩).1) (fun x hx => pX11_grant_ok (h := xw [(11, b0, f0, s0), (9, b1, f1, x4)] h) (f0 := f0) (xok_sub ho [0] rfl (by decide)) s0 x hx) rfl (fun x5 _ => ?_)
          exact s_zretB (b := x5.1) (pc := 58) dX11_tray_58 rfl (fun _ _ q => q)
        · refine s_aload_n (pc := 36) 0 dX11_tray_36 rfl ?_
          refine s_bipush (v := 6) (pc := 37) dX11_tray_37 (by decide) ?_
          refine x_callV (M := MX11_tray) (L := [(11, b0, f0, s0), (9, b1, f1, s1)]) (h := h) (j := 0) (As := [.int 6]) (st := []) (A := fun (x : Bool × RS) => some (.int (b2i x.1))) (Lc := [(11, b0, f0, s0)]) (Lr := fun (x : Bool × RS) => [(11, b0, f0, x.2)]) (L2 := fun (x : Bool × RS) => [(11, b0, f0, x.2), (9, b1, f1, s1)]) cv_X11_95 (by decide) (pc := 39) dX11_tray_39 ho rfl xc0_11 rfl rfl (Nat.le_of_ble_eq_true rfl) (xovs (L := [(11, b0, f0, s0), (9, b1, f1, s1)]) (h := h) [(0, (11, b0, f0, s0))] ho ⟨rfl, trivial⟩).1 (fun x => (xovs (L := [(11, b0, f0, s0), (9, b1, f1, s1)]) (h := h) [(0, (11, b0, f0, x.2))] ho ⟨rfl, trivial⟩).1) (fun x hx => pX11_deny_ok (h := xw [(11, b0, f0, s0), (9, b1, f1, s1)] h) (f0 := f0) (xok_sub ho [0] rfl (by decide)) s0 (6 : Int32) x hx) rfl (fun x6 _ => ?_)
          exact s_zretB (b := x6.1) (pc := 42) dX11_tray_42 rfl (fun _ _ q => q)
      · refine s_aload_n (pc := 26) 0 dX11_tray_26 rfl ?_
        refine s_iconst (v := 5) (pc := 27) dX11_tray_27 (by decide) ?_
        refine x_callV (M := MX11_tray) (L := [(11, b0, f0, s0), (9, b1, f1, s1)]) (h := h) (j := 0) (As := [.int 5]) (st := []) (A := fun (x : Bool × RS) => some (.int (b2i x.1))) (Lc := [(11, b0, f0, s0)]) (Lr := fun (x : Bool × RS) => [(11, b0, f0, x.2)]) (L2 := fun (x : Bool × RS) => [(11, b0, f0, x.2), (9, b1, f1, s1)]) cv_X11_95 (by decide) (pc := 28) dX11_tray_28 ho rfl xc0_11 rfl rfl (Nat.le_of_ble_eq_true rfl) (xovs (L := [(11, b0, f0, s0), (9, b1, f1, s1)]) (h := h) [(0, (11, b0, f0, s0))] ho ⟨rfl, trivial⟩).1 (fun x => (xovs (L := [(11, b0, f0, s0), (9, b1, f1, s1)]) (h := h) [(0, (11, b0, f0, x.2))] ho ⟨rfl, trivial⟩).1) (fun x hx => pX11_deny_ok (h := xw [(11, b0, f0, s0), (9, b1, f1, s1)] h) (f0 := f0) (xok_sub ho [0] rfl (by decide)) s0 (5 : Int32) x hx) rfl (fun x7 _ => ?_)
        exact s_zretB (b := x7.1) (pc := 31) dX11_tray_31 rfl (fun _ _ q => q)
    · refine s_sub [0] rfl ?_
      exact X11_tray_j14_ok ho ht_a0 s0 s1
  · refine s_sub [0] rfl ?_
    exact X11_tray_j14_ok ho ht_a0 s0 s1
theorem pX11_tray_ok (ho : xok [(11, b0), (9, b1)] h.2.1) (ht_a0 : vp_in a0 4 → b0 + 79 + 2 * a0.toNatClampNeg = b1) (s0 : RS) (s1 : RS) (a1 : Int32) (a2 : Int32) : ∀ x, pX11_tray s0 s1 a0 a1 a2 = some x → aMet l 1 yX11_tray cX11_tray 4 (some .boolean) [.ref b0, .int a0, .int a1, .int a2] (xw [(11, b0, f0, s0), (9, b1, f1, s1)] h) (some (.int (b2i x.1))) (xw [(11, b0, f0, x.2.1), (9, b1, f1, x.2.2)] h) := fun x hx => a_meth (ini := false) (y := yX11_tray) (by decide +kernel) (fun q => by cases q) (fun _ => Nat.le_of_ble_eq_true rfl) (pX11_tray_w ho ht_a0 s0 s1 a1 a2) x hx _ _ ⟨rfl, rfl⟩
end
section
variable {l : Launch} {n0 S0 : Nat} {h : aH} {b0 b1 : Nat} {f0 f1 : Nat → Option Nat} {a0 : Int32}
abbrev MX11_write : aM := (cX11_write, RX11, 6, (some .boolean), false)
def pX11_write (s0 : RS) (s1 : RS) (a0 : Int32) (a1 : Int32) (a2 : Int64) : Option (Bool × RS × RS) :=
  (pX11_faultOfPlace s0 s1 a0 a1).bind fun x1 =>
  if x1 = 0 then
    g_in a0 4 (
    (pX9_set s1 a1 a2).bind fun x2 =>
    (pX11_grant s0).bind fun x3 =>
    some (x3.1, x3.2, x2))
  else
    (pX11_deny s0 x1).bind fun x4 =>
    some (x4.1, x4.2, s1)
theorem pX11_write_w (ho : xok [(11, b0), (9, b1)] h.2.1) (ht_a0 : vp_in a0 4 → b0 + 79 + 2 * a0.toNatClampNeg = b1) (s0 : RS) (s1 : RS) (a1 : Int32) (a2 : Int64) : aS l 2 MX11_write n0 S0 (oΦ (fun (x : Bool × RS × RS) => ((some (.int (b2i x.1))), xw [(11, b0, f0, x.2.1), (9, b1, f1, x.2.2)] h))) 0 [(0, .ref b0), (1, .int a0), (2, .int a1), (3, .long a2)] [] (xw [(11, b0, f0, s0), (9, b1, f1, s1)] h) (pX11_write s0 s1 a0 a1 a2) := by
  unfold pX11_write
  refine s_aload_n (pc := 0) 0 dX11_write_0 rfl ?_
  refine s_iload_n (pc := 1) 1 dX11_write_1 rfl ?_
  refine s_iload_n (pc := 2) 2 dX11_write_2 rfl ?_
  refine x_callV (M := MX11_write) (L := [(11, b0, f0, s0), (9, b1, f1, s1)]) (h := h) (j := 0) (As := [.int a0, .int a1]) (st := []) (A := fun (x : Int32) => some (.int x)) (Lc := [(11, b0, f0, s0), (9, b1, f1, s1)]) (Lr := fun (x : Int32) => [(11, b0, f0, s0), (9, b1, f1, s1)]) (L2 := fun (x : Int32) => [(11, b0, f0, s0), (9, b1, f1, s1)]) cv_X11_105 (by decide) (pc := 3) dX11_write_3 ho rfl xc0_11 rfl rfl (Nat.le_of_ble_eq_true rfl) (xovs (L := [(11, b0, f0, s0), (9, b1, f1, s1)]) (h := h) [(0, (11, b0, f0, s0)), (1, (9, b1, f1, s1))] ho ⟨rfl, rfl, trivial⟩).1 (fun x => (xovs (L := [(11, b0, f0, s0), (9, b1, f1, s1)]) (h := h) [(0, (11, b0, f0, s0)), (1, (9, b1, f1, s1))] ho ⟨rfl, rfl, trivial⟩).1) (fun x hx => pX11_faultOfPlace_ok (h := xw [(11, b0, f0, s0), (9, b1, f1, s1)] h) (f0 := f0) (f1 := f1) (xok_sub ho [0, 1] rfl (by decide)) ht_a0 s0 s1 a1 x hx) rfl (fun x1 _ => ?_)
  refine s_istore (lv' := [(5, .int x1), (0, .ref b0), (1, .int a0), (2, .int a1), (3, .long a2)]) (pc := 6) dX11_write_6 (by decide) rfl ?_
  refine s_iload (pc := 8) 0 dX11_write_8 rfl ?_
  refine s_if_eq (tgt := 20) (pc := 10) dX11_write_10 (by decide) (fun _ => ?_) (fun _ => ?_)
  · refine s_aload_n (pc := 20) 1 dX11_write_20 rfl ?_
    refine xg_X11_11 0 ho rfl (pc := 21) dX11_write_21 rfl ?_
    refine s_iload_n (pc := 24) 2 dX11_write_24 rfl ?_
    refine x_trays 0 ho rfl ht_a0 (pc := 25) dX11_write_25 ?_
    refine s_iload_n (pc := 26) 3 dX11_write_26 rfl ?_
    refine s_lload_n (pc := 27) 4 dX11_write_27 rfl ?_
    refine x_callV (M := MX11_write) (L := [(11, b0, f0, s0), (9, b1, f1, s1)]) (h := h) (j := 1) (As := [.int a1, .long a2]) (st := []) (A := fun (x : RS) => none) (Lc := [(9, b1, f1, s1)]) (Lr := fun (x : RS) => [(9, b1, f1, x)]) (L2 := fun (x : RS) => [(11, b0, f0, s0), (9, b1, f1, x)]) cv_X11_109 (by decide) (pc := 28) dX11_write_28 ho rfl xc0_9 rfl rfl (Nat.le_of_ble_eq_true rfl) (xovs (L := [(11, b0, f0, s0), (9, b1, f1, s1)]) (h := h) [(1, (9, b1, f1, s1))] ho ⟨rfl, trivial⟩).1 (fun x => (xovs (L := [(11, b0, f0, s0), (9, b1, f1, s1)]) (h := h) [(1, (9, b1, f1, x))] ho ⟨rfl, trivial⟩).1) (fun x hx => pX9_set_ok (h := xw [(11, b0, f0, s0), (9, b1, f1, s1)] h) (f0 := f1) (xok_sub ho [1] rfl (by decide)) s1 a1 a2 x hx) rfl (fun x2 _ => ?_)
    refine s_aload_n (pc := 31) 1 dX11_write_31 rfl ?_
    refine x_callV (M := MX11_write) (L := [(11, b0, f0, s0), (9, b1, f1, x2)]) (h := h) (j := 0) (As := []) (st := []) (A := fun (x : Bool × RS) => some (.int (b2i x.1))) (Lc := [(11, b0, f0, s0)]) (Lr := fun (x : Bool × RS) => [(11, b0, f0, x.2)]) (L2 := fun (x : Bool × RS) => [(11, b0, f0, x.2), (9, b1, f1, x2)]) cv_X11_102 (by decide) (pc := 32) dX11_write_32 ho rfl xc0_11 rfl rfl (Nat.le_of_ble_eq_true rfl) (xovs (L := [(11, b0, f0, s0), (9, b1, f1, x2)]) (h := h) [(0, (11, b0, f0, s0))] ho ⟨rfl, trivial⟩).1 (fun x => (xovs (L := [(11, b0, f0, s0), (9, b1, f1, x2)]) (h := h) [(0, (11, b0, f0, x.2))] ho ⟨rfl, trivial⟩).1) (fun x hx => pX11_grant_ok (h := xw [(11, b0, f0, s0), (9, b1, f1, x2)] h) (f0 := f0) (xok_sub ho [0] rfl (by decide)) s0 x hx) rfl (fun x3 _ => ?_)
    exact s_zretB (b := x3.1) (pc := 35) dX11_write_35 rfl (fun _ _ q => q)
  · refine s_aload_n (pc := 13) 1 dX11_write_13 rfl ?_
    refine s_iload (pc := 14) 0 dX11_write_14 rfl ?_
    refine x_callV (M := MX11_write) (L := [(11, b0, f0, s0), (9, b1, f1, s1)]) (h := h) (j := 0) (As := [.int x1]) (st := []) (A := fun (x : Bool × RS) => some (.int (b2i x.1))) (Lc := [(11, b0, f0, s0)]) (Lr := fun (x : Bool × RS) => [(11, b0, f0, x.2)]) (L2 := fun (x : Bool × RS) => [(11, b0, f0, x.2), (9, b1, f1, s1)]) cv_X11_95 (by decide) (pc := 16) dX11_write_16 ho rfl xc0_11 rfl rfl (Nat.le_of_ble_eq_true rfl) (xovs (L := [(11, b0, f0, s0), (9, b1, f1, s1)]) (h := h) [(0, (11, b0, f0, s0))] ho ⟨rfl, trivial⟩).1 (fun x => (xovs (L := [(11, b0, f0, s0), (9, b1, f1, s1)]) (h := h) [(0, (11, b0, f0, x.2))] ho ⟨rfl, trivial⟩).1) (fun x hx => pX11_deny_ok (h := xw [(11, b0, f0, s0), (9, b1, f1, s1)] h) (f0 := f0) (xok_sub ho [0] rfl (by decide)) s0 x1 x hx) rfl (fun x4 _ => ?_)
    exact s_zretB (b := x4.1) (pc := 19) dX11_write_19 rfl (fun _ _ q => q)
theorem pX11_write_ok (ho : xok [(11, b0), (9, b1)] h.2.1) (ht_a0 : vp_in a0 4 → b0 + 79 + 2 * a0.toNatClampNeg = b1) (s0 : RS) (s1 : RS) (a1 : Int32) (a2 : Int64) : ∀ x, pX11_write s0 s1 a0 a1 a2 = some x → aMet l 2 yX11_write cX11_write 6 (some .boolean) [.ref b0, .int a0, .int a1, .long a2] (xw [(11, b0, f0, s0), (9, b1, f1, s1)] h) (some (.int (b2i x.1))) (xw [(11, b0, f0, x.2.1), (9, b1, f1, x.2.2)] h) := fun x hx => a_meth (ini := false) (y := yX11_write) (by decide +kernel) (fun q => by cases q) (fun _ => Nat.le_of_ble_eq_true rfl) (pX11_write_w ho ht_a0 s0 s1 a1 a2) x hx _ _ ⟨rfl, rfl⟩
end
section
variable {l : Launch} {n0 S0 : Nat} {h : aH} {b0 b1 : Nat} {f0 f1 : Nat → Option Nat} {a0 : Int32}
abbrev MX11_read : aM := (cX11_read, RX11, 4, (some .long), false)
def pX11_read (s0 : RS) (s1 : RS) (a0 : Int32) (a1 : Int32) : Option (Int64 × RS) :=
  (pX11_faultOfPlace s0 s1 a0 a1).bind fun x1 =>
  if x1 = 0 then
    g_in a0 4 (
    (pX9_get s1 a1).bind fun x2 =>
    (pX11_tellLong s0 x2).bind fun x3 =>
    some (x3.1, x3.2))
  else
    (pX11_refuse s0 x1).bind fun x4 =>
    some (x4.1.toInt64, x4.2)
theorem pX11_read_w (ho : xok [(11, b0), (9, b1)] h.2.1) (ht_a0 : vp_in a0 4 → b0 + 79 + 2 * a0.toNatClampNeg = b1) (s0 : RS) (s1 : RS) (a1 : Int32) : aS l 2 MX11_read n0 S0 (oΦ (fun (x : Int64 × RS) => ((some (.long x.1)), xw [(11, b0, f0, x.2), (9, b1, f1, s1)] h))) 0 [(0, .ref b0), (1, .int a0), (2, .int a1)] [] (xw [(11, b0, f0, s0), (9, b1, f1, s1)] h) (pX11_read s0 s1 a0 a1) := by
  unfold pX11_read
  refine s_aload_n (pc := 0) 0 dX11_read_0 rfl ?_
  refine s_iload_n (pc := 1) 1 dX11_read_1 rfl ?_
  refine s_iload_n (pc := 2) 2 dX11_read_2 rfl ?_
  refine x_callV (M := MX11_read) (L := [(11, b0, f0, s0), (9, b1, f1, s1)]) (h := h) (j := 0) (As := [.int a0, .int a1]) (st := []) (A := fun (x : Int32) => some (.int x)) (Lc := [(11, b0, f0, s0), (9, b1, f1, s1)]) (Lr := fun (x : Int32) => [(11, b0, f0, s0), (9, b1, f1, s1)]) (L2 := fun (x : Int32) => [(11, b0, f0, s0), (9, b1, f1, s1)]) cv_X11_105 (by decide) (pc := 3) dX11_read_3 ho rfl xc0_11 rfl rfl (Nat.le_of_ble_eq_true rfl) (xovs (L := [(11, b0, f0, s0), (9, b1, f1, s1)]) (h := h) [(0, (11, b0, f0, s0)), (1, (9, b1, f1, s1))] ho ⟨rfl, rfl, trivial⟩).1 (fun x => (xovs (L := [(11, b0, f0, s0), (9, b1, f1, s1)]) (h := h) [(0, (11, b0, f0, s0)), (1, (9, b1, f1, s1))] ho ⟨rfl, rfl, trivial⟩).1) (fun x hx => pX11_faultOfPlace_ok (h := xw [(11, b0, f0, s0), (9, b1, f1, s1)] h) (f0 := f0) (f1 := f1) (xok_sub ho [0, 1] rfl (by decide)) ht_a0 s0 s1 a1 x hx) rfl (fun x1 _ => ?_)
  refine s_istore_n (lv' := [(3, .int x1), (0, .ref b0), (1, .int a0), (2, .int a1)]) (pc := 6) dX11_read_6 (by decide) rfl ?_
  refine s_iload_n (pc := 7) 0 dX11_read_7 rfl ?_
  refine s_if_eq (tgt := 18) (pc := 8) dX11_read_8 (by decide) (fun _ => ?_) (fun _ => ?_)
  · refine s_aload_n (pc := 18) 1 dX11_read_18 rfl ?_
    refine s_aload_n (pc := 19) 1 dX11_read_19 rfl ?_
    refine xg_X11_11 0 ho rfl (pc := 20) dX11_read_20 rfl ?_
    refine s_iload_n (pc := 23) 2 dX11_read_23 rfl ?_
    refine x_trays 0 ho rfl ht_a0 (pc := 24) dX11_read_24 ?_
    refine s_iload_n (pc := 25) 3 dX11_read_25 rfl ?_
    refine x_callV (M := MX11_read) (L := [(11, b0, f0, s0), (9, b1, f1, s1)]) (h := h) (j := 1) (As := [.int a1]) (st := [.ref b0]) (A := fun (x : Int64) => some (.long x)) (Lc := [(9, b1, f1, s1)]) (Lr := fun (x : Int64) => [(9, b1, f1, s1)]) (L2 := fun (x : Int64) => [(11, b0, f0, s0), (9, b1, f1, s1)]) cv_X11_117 (by decide) (pc := 26) dX11_read_26 ho rfl xc0_9 rfl rfl (Nat.le_of_ble_eq_true rfl) (xovs (L := [(11, b0, f0, s0), (9, b1, f1, s1)]) (h := h) [(1, (9, b1, f1, s1))] ho ⟨rfl, trivial⟩).1 (fun x => (xovs (L := [(11, b0, f0, s0), (9, b1, f1, s1)]) (h := h) [(1, (9, b1, f1, s1))] ho ⟨rfl, trivial⟩).1) (fun x hx => pX9_get_ok (h := xw [(11, b0, f0, s0), (9, b1, f1, s1)] h) (f0 := f1) (xok_sub ho [1] rfl (by decide)) s1 a1 x hx) rfl (fun x2 _ => ?_)
    refine x_callV (M := MX11_read) (L := [(11, b0, f0, s0), (9, b1, f1, s1)]) (h := h) (j := 0) (As := [.long x2]) (st := []) (A := fun (x : Int64 × RS) => some (.long x.1)) (Lc := [(11, b0, f0, s0)]) (Lr := fun (x : Int64 × RS) => [(11, b0, f0, x.2)]) (L2 := fun (x : Int64 × RS) => [(11, b0, f0, x.2), (9, b1, f1, s1)]) cv_X11_121 (by decide) (pc := 29) dX11_read_29 ho rfl xc0_11 rfl rfl (Nat.le_of_ble_eq_true rfl) (xovs (L := [(11, b0, f0, s0), (9, b1, f1, s1)]) (h := h) [(0, (11, b0, f0, s0))] ho ⟨rfl, trivial⟩).1 (fun x => (xovs (L := [(11, b0, f0, s0), (9, b1, f1, s1)]) (h := h) [(0, (11, b0, f0, x.2))] ho ⟨rfl, trivial⟩).1) (fun x hx => pX11_tellLong_ok (h := xw [(11, b0, f0, s0), (9, b1, f1, s1)] h) (f0 := f0) (xok_sub ho [0] rfl (by decide)) s0 x2 x hx) rfl (fun x3 _ => ?_)
    exact s_lret (pc := 32) dX11_read_32 rfl (fun _ _ q => q)
  · refine s_aload_n (pc := 11) 1 dX11_read_11 rfl ?_
    refine s_iload_n (pc := 12) 0 dX11_read_12 rfl ?_
    refine x_callV (M := MX11_read) (L := [(11, b0, f0, s0), (9, b1, f1, s1)]) (h := h) (j := 0) (As := [.int x1]) (st := []) (A := fun (x : Int32 × RS) => some (.int x.1)) (Lc := [(11, b0, f0, s0)]) (Lr := fun (x : Int32 × RS) => [(11, b0, f0, x.2)]) (L2 := fun (x : Int32 × RS) => [(11, b0, f0, x.2), (9, b1, f1, s1)]) cv_X11_113 (by decide) (pc := 13) dX11_read_13 ho rfl xc0_11 rfl rfl (Nat.le_of_ble_eq_true rfl) (xovs (L := [(11, b0, f0, s0), (9, b1, f1, s1)]) (h := h) [(0, (11, b0, f0, s0))] ho ⟨rfl, trivial⟩).1 (fun x => (xovs (L := [(11, b0, f0, s0), (9, b1, f1, s1)]) (h := h) [(0, (11, b0, f0, x.2))] ho ⟨rfl, trivial⟩).1) (fun x hx => pX11_refuse_ok (h := xw [(11, b0, f0, s0), (9, b1, f1, s1)] h) (f0 := f0) (xok_sub ho [0] rfl (by decide)) s0 x1 x hx) rfl (fun x4 _ => ?_)
    refine s_i2l (pc := 16) dX11_read_16 ?_
    exact s_lret (pc := 17) dX11_read_17 rfl (fun _ _ q => q)
theorem pX11_read_ok (ho : xok [(11, b0), (9, b1)] h.2.1) (ht_a0 : vp_in a0 4 → b0 + 79 + 2 * a0.toNatClampNeg = b1) (s0 : RS) (s1 : RS) (a1 : Int32) : ∀ x, pX11_read s0 s1 a0 a1 = some x → aMet l 2 yX11_read cX11_read 4 (some .long) [.ref b0, .int a0, .int a1] (xw [(11, b0, f0, s0), (9, b1, f1, s1)] h) (some (.long x.1)) (xw [(11, b0, f0, x.2), (9, b1, f1, s1)] h) := fun x hx => a_meth (ini := false) (y := yX11_read) (by decide +kernel) (fun q => by cases q) (fun _ => Nat.le_of_ble_eq_true rfl) (pX11_read_w ho ht_a0 s0 s1 a1) x hx _ _ ⟨rfl, rfl⟩
end
section
variable {l : Launch} {n0 S0 : Nat} {h : aH} {b0 b1 b2 : Nat} {f0 f1 f2 : Nat → Option Nat} {a0 a2 : Int32}
abbrev MX11_pour : aM := (cX11_pour, RX11, 8, (some .boolean), false)
def X11_pour_j14 (s0 : RS) (s1 : RS) (s2 : RS) : Option (Bool × RS × RS) :=
  (pX11_deny s0 (1 : Int32)).bind fun x2 =>
  some (x2.1, x2.2, s2)
theorem X11_pour_j14_ok (ho : xok [(11, b0), (9, b1), (9, b2)] h.2.1) (ht_a0 : vp_in a0 4 → b0 + 79 + 2 * a0.toNatClampNeg = b1) (ht_a2 : vp_in a2 4 → b0 + 79 + 2 * a2.toNatClampNeg = b2) (s0 : RS) (s1 : RS) (s2 : RS) : aS l 1 MX11_pour n0 S0 (oΦ (fun (x : Bool × RS × RS) => ((some (.int (b2i x.1))), xw [(11, b0, f0, x.2.1), (9, b1, f1, s1), (9, b2, f2, x.2.2)] h))) 14 [(0, .ref b0)] [] (xw [(11, b0, f0, s0), (9, b1, f1, s1), (9, b2, f2, s2)] h) (X11_pour_j14 s0 s1 s2) := by
  unfold X11_pour_j14
  refine s_aload_n (pc := 14) 0 dX11_pour_14 rfl ?_
  refine s_iconst (v := 1) (pc := 15) dX11_pour_15 (by decide) ?_
  refine x_callV (M := MX11_pour) (L := [(11, b0, f0, s0), (9, b1, f1, s1), (9, b2, f2, s2)]) (h := h) (j := 0) (As := [.int 1]) (st := []) (A := fun (x : Bool × RS) => some (.int (b2i x.1))) (Lc := [(11, b0, f0, s0)]) (Lr := fun (x : Bool × RS) => [(11, b0, f0, x.2)]) (L2 := fun (x : Bool × RS) => [(11, b0, f0, x.2), (9, b1, f1, s1), (9, b2, f2, s2)]) cv_X11_95 (by decide) (pc := 16) dX11_pour_16 ho rfl xc0_11 rfl rfl (Nat.le_of_ble_eq_true rfl) (xovs (L := [(11, b0, f0, s0), (9, b1, f1, s1), (9, b2, f2, s2)]) (h := h) [(0, (11, b0, f0, s0))] ho ⟨rfl, trivial⟩).1 (fun x => (xovs (L := [(11, b0, f0, s0), (9, b1, f1, s1), (9, b2, f2, s2)]) (h := h) [(0, (11, b0, f0, x.2))] ho ⟨rfl, trivial⟩).1) (fun x hx => pX11_deny_ok (h := xw [(11, b0, f0, s0), (9, b1, f1, s1), (9, b2, f2, s2)] h) (f0 := f0) (xok_sub ho [0] rfl (by decide)) s0 (1 : Int32) x hx) rfl (fun x2 _ => ?_)
  exact s_zretB (b := x2.1) (pc := 19) dX11_pour_19 rfl (fun _ _ q => q)
def X11_pour_j52 (s0 : RS) (s1 : RS) (s2 : RS) : Option (Bool × RS × RS) :=
  (pX11_deny s0 (3 : Int32)).bind fun x5 =>
  some (x5.1, x5.2, s2)
theorem X11_pour_j52_ok (ho : xok [(11, b0), (9, b1), (9, b2)] h.2.1) (ht_a0 : vp_in a0 4 → b0 + 79 + 2 * a0.toNatClampNeg = b1) (ht_a2 : vp_in a2 4 → b0 + 79 + 2 * a2.toNatClampNeg = b2) (s0 : RS) (s1 : RS) (s2 : RS) : aS l 1 MX11_pour n0 S0 (oΦ (fun (x : Bool × RS × RS) => ((some (.int (b2i x.1))), xw [(11, b0, f0, x.2.1), (9, b1, f1, s1), (9, b2, f2, x.2.2)] h))) 52 [(0, .ref b0)] [] (xw [(11, b0, f0, s0), (9, b1, f1, s1), (9, b2, f2, s2)] h) (X11_pour_j52 s0 s1 s2) := by
  unfold X11_pour_j52
  refine s_aload_n (pc := 52) 0 dX11_pour_52 rfl ?_
  refine s_iconst (v := 3) (pc := 53) dX11_pour_53 (by decide) ?_
  refine x_callV (M := MX11_pour) (L := [(11, b0, f0, s0), (9, b1, f1, s1), (9, b2, f2, s2)]) (h := h) (j := 0) (As := [.int 3]) (st := []) (A := fun (x : Bool × RS) => some (.int (b2i x.1))) (Lc := [(11, b0, f0, s0)]) (Lr := fun (x : Bool × RS) => [(11, b0, f0, x.2)]) (L2 := fun (x : Bool × RS) => [(11, b0, f0, x.2), (9, b1, f1, s1), (9, b2, f2, s2)]) cv_X11_95 (by decide) (pc := 54) dX11_pour_54 ho rfl xc0_11 rfl rfl (Nat.le_of_ble_eq_true rfl) (xovs (L := [(11, b0, f0, s0), (9, b1, f1, s1), (9, b2, f2, s2)]) (h := h) [(0, (11, b0, f0, s0))] ho ⟨rfl, trivial⟩).1 (fun x => (xovs (L := [(11, b0, f0, s0), (9, b1, f1, s1), (9, b2, f2, s2)]) (h := h) [(0, (11, b0, f0, x.2))] ho ⟨rfl, trivial⟩).1) (fun x hx => pX11_deny_ok (h := xw [(11, b0, f0, s0), (9, b1, f1, s1), (9, b2, f2, s2)] h) (f0 := f0) (xok_sub ho [0] rfl (by decide)) s0 (3 : Int32) x hx) rfl (fun x5 _ => ?_)
  exact s_zretB (b := x5.1) (pc := 57) dX11_pour_57 rfl (fun _ _ q => q)
def X11_pour_j113 (s0 : RS) (s1 : RS) (s2 : RS) : Option (Bool × RS × RS) :=
  (pX11_deny s0 (4 : Int32)).bind fun x8 =>
  some (x8.1, x8.2, s2)
theorem X11_pour_j113_ok (ho : xok [(11, b0), (9, b1), (9, b2)] h.2.1) (ht_a0 : vp_in a0 4 → b0 + 79 + 2 * a0.toNatClampNeg = b1) (ht_a2 : vp_in a2 4 → b0 + 79 + 2 * a2.toNatClampNeg = b2) (s0 : RS) (s1 : RS) (s2 : RS) : aS l 1 MX11_pour n0 S0 (oΦ (fun (x : Bool × RS × RS) => ((some (.int (b2i x.1))), xw [(11, b0, f0, x.2.1), (9, b1, f1, s1), (9, b2, f2, x.2.2)] h))) 113 [(0, .ref b0)] [] (xw [(11, b0, f0, s0), (9, b1, f1, s1), (9, b2, f2, s2)] h) (X11_pour_j113 s0 s1 s2) := by
  unfold X11_pour_j113
  refine s_aload_n (pc := 113) 0 dX11_pour_113 rfl ?_
  refine s_iconst (v := 4) (pc := 114) dX11_pour_114 (by decide) ?_
  refine x_callV (M := MX11_pour) (L := [(11, b0, f0, s0), (9, b1, f1, s1), (9, b2, f2, s2)]) (h := h) (j := 0) (As := [.int 4]) (st := []) (A := fun (x : Bool × RS) => some (.int (b2i x.1))) (Lc := [(11, b0, f0, s0)]) (Lr := fun (x : Bool × RS) => [(11, b0, f0, x.2)]) (L2 := fun (x : Bool × RS) => [(11, b0, f0, x.2), (9, b1, f1, s1), (9, b2, f2, s2)]) cv_X11_95 (by decide) (pc := 115) dX11_pour_115 ho rfl xc0_11 rfl rfl (Nat.le_of_ble_eq_true rfl) (xovs (L := [(11, b0, f0, s0), (9, b1, f1, s1), (9, b2, f2, s2)]) (h := h) [(0, (11, b0, f0, s0))] ho ⟨rfl, trivial⟩).1 (fun x => (xovs (L := [(11, b0, f0, s0), (9, b1, f1, s1), (9, b2, f2, s2)]) (h := h) [(0, (11, b0, f0, x.2))] ho ⟨rfl, trivial⟩).1) (fun x hx => pX11_deny_ok (h := xw [(11, b0, f0, s0), (9, b1, f1, s1), (9, b2, f2, s2)] h) (f0 := f0) (xok_sub ho [0] rfl (by decide)) s0 (4 : Int32) x hx) rfl (fun x8 _ => ?_)
  exact s_zretB (b := x8.1) (pc := 118) dX11_pour_118 rfl (fun _ _ q => q)
def pX11_pour (s0 : RS) (s1 : RS) (s2 : RS) (a0 : Int32) (a1 : Int32) (a2 : Int32) (a3 : Int32) (a4 : Int32) : Option (Bool × RS × RS) :=
  (pX11_isTray a0).bind fun x1 =>
  if x1 = true then
    (pX11_isTray a2).bind fun x3 =>
    if x3 = true then
      g_in a0 4 (
      g_in a2 4 (
      (pX9_isMissing s1).bind fun x4 =>
      if x4 = true then
        X11_pour_j52 s0 s1 s2
      else
        (pX9_isMissing s2).bind fun x6 =>
        if x6 = true then
          X11_pour_j52 s0 s1 s2
        else
          if (s1.1 1) = (s2.1 1) then
            if 0 ≤ a4 then
              (pX9_spans s1 a1 a4).bind fun x7 =>
              if x7 = true then
                (pX9_spans s2 a3 a4).bind fun x9 =>
                if x9 = true then
                  g_cp a1 a3 a4 60 60 (thn (uB s2 0 (va_cpy (s1.2.2.2 0) (s2.2.2.2 0) a1.toNatClampNeg a3.toNatClampNeg a4.toNatClampNeg)) fun s_10 =>
                  (pX11_grant s0).bind fun x11 =>
                  some (x11.1, x11.2, s_10))
                else
                  X11_pour_j113 s0 s1 s2
              else
                X11_pour_j113 s0 s1 s2
            else
              (pX11_deny s0 (6 : Int32)).bind fun x12 =>
              some (x12.1, x12.2, s2)
          else
            (pX11_deny s0 (11 : Int32)).bind fun x13 =>
            some (x13.1, x13.2, s2)))
    else
      X11_pour_j14 s0 s1 s2
  else
    X11_pour_j14 s0 s1 s2
theorem pX11_pour_w (ho : xok [(11, b0), (9, b1), (9, b2)] h.2.1) (ht_a0 : vp_in a0 4 → b0 + 79 + 2 * a0.toNatClampNeg = b1) (ht_a2 : vp_in a2 4 → b0 + 79 + 2 * a2.toNatClampNeg = b2) (s0 : RS) (s1 : RS) (s2 : RS) (a1 : Int32) (a3 : Int32) (a4 : Int32) : aS l 1 MX11_pour n0 S0 (oΦ (fun (x : Bool × RS × RS) => ((some (.int (b2i x.1))), xw [(11, b0, f0, x.2.1), (9, b1, f1, s1), (9, b2, f2, x.2.2)] h))) 0 [(0, .ref b0), (1, .int a0), (2, .int a1), (3, .int a2), (4, .int a3), (5, .int a4)] [] (xw [(11, b0, f0, s0), (9, b1, f1, s1), (9, b2, f2, s2)] h) (pX11_pour s0 s1 s2 a0 a1 a2 a3 a4) := by
  unfold pX11_pour
  refine s_iload_n (pc := 0) 1 dX11_pour_0 rfl ?_
  refine s_callS (M := MX11_pour) (As := [.int a0]) (st := []) (Ψ := fun (x : Bool) => (some (.int (b2i x)), xw [(11, b0, f0, s0), (9, b1, f1, s1), (9, b2, f2, s2)] h)) cs_X11_80 (by decide) (pc := 1) dX11_pour_1 rfl (Nat.le_of_ble_eq_true rfl) (fun x hx => pX11_isTray_ok a0 x hx) rfl (fun x1 _ => ?_)
  refine s_if_eqB (tgt := 14) (pc := 4) dX11_pour_4 (by decide) (fun _ => ?_) (fun _ => ?_)
  · refine s_iload_n (pc := 7) 3 dX11_pour_7 rfl ?_
    refine s_callS (M := MX11_pour) (As := [.int a2]) (st := []) (Ψ := fun (x : Bool) => (some (.int (b2i x)), xw [(11, b0, f0, s0), (9, b1, f1, s1), (9, b2, f2, s2)] h)) cs_X11_80 (by decide) (pc := 8) dX11_pour_8 rfl (Nat.le_of_ble_eq_true rfl) (fun x hx => pX11_isTray_ok a2 x hx) rfl (fun x3 _ => ?_)
    refine s_if_neB (tgt := 20) (pc := 11) dX11_pour_11 (by decide) (fun _ => ?_) (fun _ => ?_)
    · refine s_aload_n (pc := 20) 0 dX11_pour_20 rfl ?_
      refine xg_X11_11 0 ho rfl (pc := 21) dX11_pour_21 rfl ?_
      refine s_iload_n (pc := 24) 1 dX11_pour_24 rfl ?_
      refine x_trays 0 ho rfl ht_a0 (pc := 25) dX11_pour_25 ?_
      refine s_astore (lv' := [(6, .ref b1), (0, .ref b0), (1, .int a0), (2, .int a1), (3, .int a2), (4, .int a3), (5, .int a4)]) (pc := 26) dX11_pour_26 (by decide) rfl ?_
      refine s_aload_n (pc := 28) 1 dX11_pour_28 rfl ?_
      refine xg_X11_11 0 ho rfl (pc := 29) dX11_pour_29 rfl ?_
      refine s_iload_n (pc := 32) 4 dX11_pour_32 rfl ?_
      refine x_trays 0 ho rfl ht_a2 (pc := 33) dX11_pour_33 ?_
      refine s_astore (lv' := [(7, .ref b2), (6, .ref b1), (0, .ref b0), (1, .int a0), (2, .int a1), (3, .int a2), (4, .int a3), (5, .int a4)]) (pc := 34) dX11_pour_34 (by decide) rfl ?_
      refine s_aload (pc := 36) 1 dX11_pour_36 rfl ?_
      refine x_callV (M := MX11_pour) (L := [(11, b0, f0, s0), (9, b1, f1, s1), (9, b2, f2, s2)]) (h := h) (j := 1) (As := []) (st := []) (A := fun (x : Bool) => some (.int (b2i x))) (Lc := [(9, b1, f1, s1)]) (Lr := fun (x : Bool) => [(9, b1, f1, s1)]) (L2 := fun (x : Bool) => [(11, b0, f0, s0), (9, b1, f1, s1), (9, b2, f2, s2)]) cv_X11_84 (by decide) (pc := 38) dX11_pour_38 ho rfl xc0_9 rfl rfl (Nat.le_of_ble_eq_true rfl) (xovs (L := [(11, b0, f0, s0), (9, b1, f1, s1), (9, b2, f2, s2)]) (h := h) [(1, (9, b1, f1, s1))] ho ⟨rfl, trivial⟩).1 (fun x => (xovs (L := [(11, b0, f0, s0), (9, b1, f1, s1), (9, b2, f2, s2)]) (h := h) [(1, (9, b1, f1, s1))] ho ⟨rfl, trivial⟩).1) (fun x hx => pX9_isMissing_ok (h := xw [(11, b0, f0, s0), (9, b1, f1, s1), (9, b2, f2, s2)] h) (f0 := f1) (xok_sub ho [1] rfl (by decide)) s1 x hx) rfl (fun x4 _ => ?_)
      refine s_if_neB (tgt := 52) (pc := 41) dX11_pour_41 (by decide) (fun _ => ?_) (fun _ => ?_)
      · refine s_sub [2] rfl ?_
        exact X11_pour_j52_ok ho ht_a0 ht_a2 s0 s1 s2
      · refine s_aload (pc := 44) 0 dX11_pour_44 rfl ?_
        refine x_callV (M := MX11_pour) (L := [(11, b0, f0, s0), (9, b1, f1, s1), (9, b2, f2, s2)]) (h := h) (j := 2) (As := []) (st := []) (A := fun (x : Bool) => some (.int (b2i x))) (Lc := [(9, b2, f2, s2)]) (Lr := fun (x : Bool) => [(9, b2, f2, s2)]) (L2 := fun (x : Bool) => [(11, b0, f0, s0), (9, b1, f1, s1), (9, b2, f2, s2)]) cv_X11_84 (by decide) (pc := 46) dX11_pour_46 ho rfl xc0_9 rfl rfl (Nat.le_of_ble_eq_true rfl) (xovs (L := [(11, b0, f0, s0), (9, b1, f1, s1), (9, b2, f2, s2)]) (h := h) [(2, (9, b2, f2, s2))] ho ⟨rfl, trivial⟩).1 (fun x => (xovs (L := [(11, b0, f0, s0), (9, b1, f1, s1), (9, b2, f2, s2)]) (h := h) [(2, (9, b2, f2, s2))] ho ⟨rfl, trivial⟩).1) (fun x hx => pX9_isMissing_ok (h := xw [(11, b0, f0, s0), (9, b1, f1, s1), (9, b2, f2, s2)] h) (f0 := f2) (xok_sub ho [2] rfl (by decide)) s2 x hx) rfl (fun x6 _ => ?_)
        refine s_if_eqB (tgt := 58) (pc := 49) dX11_pour_49 (by decide) (fun _ => ?_) (fun _ => ?_)
        · refine s_sub [2] rfl ?_
          exact X11_pour_j52_ok ho ht_a0 ht_a2 s0 s1 s2
        · refine s_aload (pc := 58) 1 dX11_pour_58 rfl ?_
          refine xg_X11_125 1 ho rfl (pc := 60) dX11_pour_60 rfl ?_
          refine s_aload (pc := 63) 0 dX11_pour_63 rfl ?_
          refine xg_X11_125 2 ho rfl (pc := 65) dX11_pour_65 rfl ?_
          refine s_icmp_eq (tgt := 78) (pc := 68) dX11_pour_68 (by decide) (fun _ => ?_) (fun _ => ?_)
          · refine s_iload (pc := 78) 7 dX11_pour_78 rfl ?_
            refine s_if_ge (tgt := 90) (pc := 80) dX11_pour_80 (by decide) (fun _ => ?_) (fun _ => ?_)
            · refine s_aload (pc := 90) 1 dX11_pour_90 rfl ?_
              refine s_iload_n (pc := 92) 4 dX11_pour_92 rfl ?_
              refine s_iload (pc := 93) 7 dX11_pour_93 rfl ?_
              refine x_callV (M := MX11_pour) (L := [(11, b0, f0, s0), (9, b1, f1, s1), (9, b2, f2, s2)]) (h := h) (j := 1) (As := [.int a1, .int a4]) (st := []) (A := fun (x : Bool) => some (.int (b2i x))) (Lc := [(9, b1, f1, s1)]) (Lr := fun (x : Bool) => [(9, b1, f1, s1)]) (L2 := fun (x : Bool) => [(11, b0, f0, s0), (9, b1, f1, s1), (9, b2, f2, s2)]) cv_X11_88 (by decide) (pc := 95) dX11_pour_95 ho rfl xc0_9 rfl rfl (Nat.le_of_ble_eq_true rfl) (xovs (L := [(11, b0, f0, s0), (9, b1, f1, s1), (9, b2, f2, s2)]) (h := h) [(1, (9, b1, f1, s1))] ho ⟨rfl, trivial⟩).1 (fun x => (xovs (L := [(11, b0, f0, s0), (9, b1, f1, s1), (9, b2, f2, s2)]) (h := h) [(1, (9, b1, f1, s1))] ho ⟨rfl, trivial⟩).1) (fun x hx => pX9_spans_ok (h := xw [(11, b0, f0, s0), (9, b1, f1, s1), (9, b2, f2, s2)] h) (f0 := f1) (xok_sub ho [1] rfl (by decide)) s1 a1 a4 x hx) rfl (fun x7 _ => ?_)
              refine s_if_eqB (tgt := 113) (pc := 98) dX11_pour_98 (by decide) (fun _ => ?_) (fun _ => ?_)
              · refine s_aload (pc := 101) 0 dX11_pour_101 rfl ?_
                refine s_iload (pc := 103) 6 dX11_pour_103 rfl ?_
                refine s_iload (pc := 105) 7 dX11_pour_105 rfl ?_
                refine x_callV (M := MX11_pour) (L := [(11, b0, f0, s0), (9, b1, f1, s1), (9, b2, f2, s2)]) (h := h) (j := 2) (As := [.int a3, .int a4]) (st := []) (A := fun (x : Bool) => some (.int (b2i x))) (Lc := [(9, b2, f2, s2)]) (Lr := fun (x : Bool) => [(9, b2, f2, s2)]) (L2 := fun (x : Bool) => [(11, b0, f0, s0), (9, b1, f1, s1), (9, b2, f2, s2)]) cv_X11_88 (by decide) (pc := 107) dX11_pour_107 ho rfl xc0_9 rfl rfl (Nat.le_of_ble_eq_true rfl) (xovs (L := [(11, b0, f0, s0), (9, b1, f1, s1), (9, b2, f2, s2)]) (h := h) [(2, (9, b2, f2, s2))] ho ⟨rfl, trivial⟩).1 (fun x => (xovs (L := [(11, b0, f0, s0), (9, b1, f1, s1), (9, b2, f2, s2)]) (h := h) [(2, (9, b2, f2, s2))] ho ⟨rfl, trivial⟩).1) (fun x hx => pX9_spans_ok (h := xw [(11, b0, f0, s0), (9, b1, f1, s1), (9, b2, f2, s2)] h) (f0 := f2) (xok_sub ho [2] rfl (by decide)) s2 a3 a4 x hx) rfl (fun x9 _ => ?_)
                refine s_if_neB (tgt := 119) (pc := 110) dX11_pour_110 (by decide) (fun _ => ?_) (fun _ => ?_)
                · refine s_aload (pc := 119) 1 dX11_pour_119 rfl ?_
                  refine xg_X11_128 1 ho rfl (pc := 121) dX11_pour_121 rfl ?_
                  refine s_iload_n (pc := 124) 4 dX11_pour_124 rfl ?_
                  refine s_aload (pc := 125) 0 dX11_pour_125 rfl ?_
                  refine xg_X11_128 2 ho rfl (pc := 127) dX11_pour_127 rfl ?_
                  refine s_iload (pc := 130) 6 dX11_pour_130 rfl ?_
                  refine s_iload (pc := 132) 7 dX11_pour_132 rfl ?_
                  refine x_copyL (L' := fun s_10 => [(11, b0, f0, s0), (9, b1, f1, s1), (9, b2, f2, s_10)]) (s' := uB s2 0 (va_cpy (s1.2.2.2 0) (s2.2.2.2 0) a1.toNatClampNeg a3.toNatClampNeg a4.toNatClampNeg)) 1 2 ho rfl rfl rfl rfl rfl rfl rfl xu9_0 (fun _ => rfl) wm_X11_132 (by decide) (Nat.le_of_ble_eq_true rfl) (pc := 134) dX11_pour_134 (fun s_10 => ?_)
                  refine s_aload_n (pc := 137) 2 dX11_pour_137 rfl ?_
                  refine x_callV (M := MX11_pour) (L := [(11, b0, f0, s0), (9, b1, f1, s1), (9, b2, f2, s_10)]) (h := h) (j := 0) (As := []) (st := []) (A := fun (x : Bool × RS) => some (.int (b2i x.1))) (Lc := [(11, b0, f0, s0)]) (Lr := fun (x : Bool × RS) => [(11, b0, f0, x.2)]) (L2 := fun (x : Bool × RS) => [(11, b0, f0, x.2), (9, b1, f1, s1), (9, b2, f2, s_10)]) cv_X11_102 (by decide) (pc := 138) dX11_pour_138 ho rfl xc0_11 rfl rfl (Nat.le_of_ble_eq_true rfl) (xovs (L := [(11, b0, f0, s0), (9, b1, f1, s1), (9, b2, f2, s_10)]) (h := h) [(0, (11, b0, f0, s0))] ho ⟨rfl, trivial⟩).1 (fun x => (xovs (L := [(11, b0, f0, s0), (9, b1, f1, s1), (9, b2, f2, s_10)]) (h := h) [(0, (11, b0, f0, x.2))] ho ⟨rfl, trivial⟩).1) (fun x hx => pX11_grant_ok (h := xw [(11, b0, f0, s0), (9, b1, f1, s1), (9, b2, f2, s_10)] h) (f0 := f0) (xok_sub ho [0] rfl (by decide)) s0 x hx) rfl (fun x11 _ => ?_)
                  exact s_zretB (b := x11.1) (pc := 141) dX11_pour_141 rfl (fun _ _ q => q)
                · refine s_sub [2] rfl ?_
                  exact X11_pour_j113_ok ho ht_a0 ht_a2 s0 s1 s2
              · refine s_sub [2] rfl ?_
                exact X11_pour_j113_ok ho ht_a0 ht_a2 s0 s1 s2
            · refine s_aload_n (pc := 83) 2 dX11_pour_83 rfl ?_
              refine s_bipush (v := 6) (pc := 84) dX11_pour_84 (by decide) ?_
              refine x_callV (M := MX11_pour) (L := [(11, b0, f0, s0), (9, b1, f1, s1), (9, b2, f2, s2)]) (h := h) (j := 0) (As := [.int 6]) (st := []) (A := fun (x : Bool × RS) => some (.int (b2i x.1))) (Lc := [(11, b0, f0, s0)]) (Lr := fun (x : Bool × RS) => [(11, b0, f0, x.2)]) (L2 := fun (x : Bool × RS) => [(11, b0, f0, x.2), (9, b1, f1, s1), (9, b2, f2, s2)]) cv_X11_95 (by decide) (pc := 86) dX11_pour_86 ho rfl xc0_11 rfl rfl (Nat.le_of_ble_eq_true rfl) (xovs (L := [(11, b0, f0, s0), (9, b1, f1, s1), (9, b2, f2, s2)]) (h := h) [(0, (11, b0, f0, s0))] ho ⟨rfl, trivial⟩).1 (fun x => (xovs (L := [(11, b0, f0, s0), (9, b1, f1, s1), (9, b2, f2, s2)]) (h := h) [(0, (11, b0, f0, x.2))] ho ⟨rfl, trivial⟩).1) (fun x hx => pX11_deny_ok (h := xw [(11, b0, f0, s0), (9, b1, f1, s1), (9, b2, f2, s2)] h) (f0 := f0) (xok_sub ho [0] rfl (by decide)) s0 (6 : Int32) x hx) rfl (fun x12 _ => ?_)
              exact s_zretB (b := x12.1) (pc := 89) dX11_pour_89 rfl (fun _ _ q => q)
          · refine s_aload_n (pc := 71) 2 dX11_pour_71 rfl ?_
            refine s_bipush (v := 11) (pc := 72) dX11_pour_72 (by decide) ?_
            refine x_callV (M := MX11_pour) (L := [(11, b0, f0, s0), (9, b1, f1, s1), (9, b2, f2, s2)]) (h := h) (j := 0) (As := [.int 11]) (st := []) (A := fun (x : Bool × RS) => some (.int (b2i x.1))) (Lc := [(11, b0, f0, s0)]) (Lr := fun (x : Bool × RS) => [(11, b0, f0, x.2)]) (L2 := fun (x : Bool × RS) => [(11, b0, f0, x.2), (9, b1, f1, s1), (9, b2, f2, s2)]) cv_X11_95 (by decide) (pc := 74) dX11_pour_74 ho rfl xc0_11 rfl rfl (Nat.le_of_ble_eq_true rfl) (xovs (L := [(11, b0, f0, s0), (9, b1, f1, s1), (9, b2, f2, s2)]) (h := h) [(0, (11, b0, f0, s0))] ho ⟨rfl, trivial⟩).1 (fun x => (xovs (L := [(11, b0, f0, s0), (9, b1, f1, s1), (9, b2, f2, s2)]) (h := h) [(0, (11, b0, f0, x.2))] ho ⟨rfl, trivial⟩).1) (fun x hx => pX11_deny_ok (h := xw [(11, b0, f0, s0), (9, b1, f1, s1), (9, b2, f2, s2)] h) (f0 := f0) (xok_sub ho [0] rfl (by decide)) s0 (11 : Int32) x hx) rfl (fun x13 _ => ?_)
            exact s_zretB (b := x13.1) (pc := 77) dX11_pour_77 rfl (fun _ _ q => q)
    · refine s_sub [0] rfl ?_
      exact X11_pour_j14_ok ho ht_a0 ht_a2 s0 s1 s2
  · refine s_sub [0] rfl ?_
    exact X11_pour_j14_ok ho ht_a0 ht_a2 s0 s1 s2
theorem pX11_pour_ok (ho : xok [(11, b0), (9, b1), (9, b2)] h.2.1) (ht_a0 : vp_in a0 4 → b0 + 79 + 2 * a0.toNatClampNeg = b1) (ht_a2 : vp_in a2 4 → b0 + 79 + 2 * a2.toNatClampNeg = b2) (s0 : RS) (s1 : RS) (s2 : RS) (a1 : Int32) (a3 : Int32) (a4 : Int32) : ∀ x, pX11_pour s0 s1 s2 a0 a1 a2 a3 a4 = some x → aMet l 1 yX11_pour cX11_pour 8 (some .boolean) [.ref b0, .int a0, .int a1, .int a2, .int a3, .int a4] (xw [(11, b0, f0, s0), (9, b1, f1, s1), (9, b2, f2, s2)] h) (some (.int (b2i x.1))) (xw [(11, b0, f0, x.2.1), (9, b1, f1, s1), (9, b2, f2, x.2.2)] h) := fun x hx => a_meth (ini := false) (y := yX11_pour) (by decide +kernel) (fun q => by cases q) (fun _ => Nat.le_of_ble_eq_true rfl) (pX11_pour_w ho ht_a0 ht_a2 s0 s1 s2 a1 a3 a4) x hx _ _ ⟨rfl, rfl⟩
end
section
variable {l : Launch} {n0 S0 : Nat} {h : aH} {b0 b1 : Nat} {f0 f1 : Nat → Option Nat} {a0 a2 : Int32}
def X11_pourE_j14 (s0 : RS) (s1 : RS) : Option (Bool × RS × RS) :=
  (pX11_deny s0 (1 : Int32)).bind fun x2 =>
  some (x2.1, x2.2, s1)
theorem X11_pourE_j14_ok (ho : xok [(11, b0), (9, b1)] h.2.1) (ht_a0 : vp_in a0 4 → b0 + 79 + 2 * a0.toNatClampNeg = b1) (ht_a2 : vp_in a2 4 → b0 + 79 + 2 * a2.toNatClampNeg = b1) (s0 : RS) (s1 : RS) : aS l 1 MX11_pour n0 S0 (oΦ (fun (x : Bool × RS × RS) => ((some (.int (b2i x.1))), xw [(11, b0, f0, x.2.1), (9, b1, f1, x.2.2)] h))) 14 [(0, .ref b0)] [] (xw [(11, b0, f0, s0), (9, b1, f1, s1)] h) (X11_pourE_j14 s0 s1) := by
  unfold X11_pourE_j14
  refine s_aload_n (pc := 14) 0 dX11_pour_14 rfl ?_
  refine s_iconst (v := 1) (pc := 15) dX11_pour_15 (by decide) ?_
  refine x_callV (M := MX11_pour) (L := [(11, b0, f0, s0), (9, b1, f1, s1)]) (h := h) (j := 0) (As := [.int 1]) (st := []) (A := fun (x : Bool × RS) => some (.int (b2i x.1))) (Lc := [(11, b0, f0, s0)]) (Lr := fun (x : Bool × RS) => [(11, b0, f0, x.2)]) (L2 := fun (x : Bool × RS) => [(11, b0, f0, x.2), (9, b1, f1, s1)]) cv_X11_95 (by decide) (pc := 16) dX11_pour_16 ho rfl xc0_11 rfl rfl (Nat.le_of_ble_eq_true rfl) (xovs (L := [(11, b0, f0, s0), (9, b1, f1, s1)]) (h := h) [(0, (11, b0, f0, s0))] ho ⟨rfl, trivial⟩).1 (fun x => (xovs (L := [(11, b0, f0, s0), (9, b1, f1, s1)]) (h := h) [(0, (11, b0, f0, x.2))] ho ⟨rfl, trivial⟩).1) (fun x hx => pX11_deny_ok (h := xw [(11, b0, f0, s0), (9, b1, f1, s1)] h) (f0 := f0) (xok_sub ho [0] rfl (by decide)) s0 (1 : Int32) x hx) rfl (fun x2 _ => ?_)
  exact s_zretB (b := x2.1) (pc := 19) dX11_pour_19 rfl (fun _ _ q => q)
def X11_pourE_j52 (s0 : RS) (s1 : RS) : Option (Bool × RS × RS) :=
  (pX11_deny s0 (3 : Int32)).bind fun x5 =>
  some (x5.1, x5.2, s1)
theorem X11_pourE_j52_ok (ho : xok [(11, b0), (9, b1)] h.2.1) (ht_a0 : vp_in a0 4 → b0 + 79 + 2 * a0.toNatClampNeg = b1) (ht_a2 : vp_in a2 4 → b0 + 79 + 2 * a2.toNatClampNeg = b1) (s0 : RS) (s1 : RS) : aS l 1 MX11_pour n0 S0 (oΦ (fun (x : Bool × RS × RS) => ((some (.int (b2i x.1))), xw [(11, b0, f0, x.2.1), (9, b1, f1, x.2.2)] h))) 52 [(0, .ref b0)] [] (xw [(11, b0, f0, s0), (9, b1, f1, s1)] h) (X11_pourE_j52 s0 s1) := by
  unfold X11_pourE_j52
  refine s_aload_n (pc := 52) 0 dX11_pour_52 rfl ?_
  refine s_iconst (v := 3) (pc := 53) dX11_pour_53 (by decide) ?_
  refine x_callV (M := MX11_pour) (L := [(11, b0, f0, s0), (9, b1, f1, s1)]) (h := h) (j := 0) (As := [.int 3]) (st := []) (A := fun (x : Bool × RS) => some (.int (b2i x.1))) (Lc := [(11, b0, f0, s0)]) (Lr := fun (x : Bool × RS) => [(11, b0, f0, x.2)]) (L2 := fun (x : Bool × RS) => [(11, b0, f0, x.2), (9, b1, f1, s1)]) cv_X11_95 (by decide) (pc := 54) dX11_pour_54 ho rfl xc0_11 rfl rfl (Nat.le_of_ble_eq_true rfl) (xovs (L := [(11, b0, f0, s0), (9, b1, f1, s1)]) (h := h) [(0, (11, b0, f0, s0))] ho ⟨rfl, trivial⟩).1 (fun x => (xovs (L := [(11, b0, f0, s0), (9, b1, f1, s1)]) (h := h) [(0, (11, b0, f0, x.2))] ho ⟨rfl, trivial⟩).1) (fun x hx => pX11_deny_ok (h := xw [(11, b0, f0, s0), (9, b1, f1, s1)] h) (f0 := f0) (xok_sub ho [0] rfl (by decide)) s0 (3 : Int32) x hx) rfl (fun x5 _ => ?_)
  exact s_zretB (b := x5.1) (pc := 57) dX11_pour_57 rfl (fun _ _ q => q)
def X11_pourE_j113 (s0 : RS) (s1 : RS) : Option (Bool × RS × RS) :=
  (pX11_deny s0 (4 : Int32)).bind fun x8 =>
  some (x8.1, x8.2, s1)
theorem X11_pourE_j113_ok (ho : xok [(11, b0), (9, b1)] h.2.1) (ht_a0 : vp_in a0 4 → b0 + 79 + 2 * a0.toNatClampNeg = b1) (ht_a2 : vp_in a2 4 → b0 + 79 + 2 * a2.toNatClampNeg = b1) (s0 : RS) (s1 : RS) : aS l 1 MX11_pour n0 S0 (oΦ (fun (x : Bool × RS × RS) => ((some (.int (b2i x.1))), xw [(11, b0, f0, x.2.1), (9, b1, f1, x.2.2)] h))) 113 [(0, .ref b0)] [] (xw [(11, b0, f0, s0), (9, b1, f1, s1)] h) (X11_pourE_j113 s0 s1) := by
  unfold X11_pourE_j113
  refine s_aload_n (pc := 113) 0 dX11_pour_113 rfl ?_
  refine s_iconst (v := 4) (pc := 114) dX11_pour_114 (by decide) ?_
  refine x_callV (M := MX11_pour) (L := [(11, b0, f0, s0), (9, b1, f1, s1)]) (h := h) (j := 0) (As := [.int 4]) (st := []) (A := fun (x : Bool × RS) => some (.int (b2i x.1))) (Lc := [(11, b0, f0, s0)]) (Lr := fun (x : Bool × RS) => [(11, b0, f0, x.2)]) (L2 := fun (x : Bool × RS) => [(11, b0, f0, x.2), (9, b1, f1, s1)]) cv_X11_95 (by decide) (pc := 115) dX11_pour_115 ho rfl xc0_11 rfl rfl (Nat.le_of_ble_eq_true rfl) (xovs (L := [(11, b0, f0, s0), (9, b1, f1, s1)]) (h := h) [(0, (11, b0, f0, s0))] ho ⟨rfl, trivial⟩).1 (fun x => (xovs (L := [(11, b0, f0, s0), (9, b1, f1, s1)]) (h := h) [(0, (11, b0, f0, x.2))] ho ⟨rfl, trivial⟩).1) (fun x hx => pX11_deny_ok (h := xw [(11, b0, f0, s0), (9, b1, f1, s1)] h) (f0 := f0) (xok_sub ho [0] rfl (by decide)) s0 (4 : Int32) x hx) rfl (fun x8 _ => ?_)
  exact s_zretB (b := x8.1) (pc := 118) dX11_pour_118 rfl (fun _ _ q => q)
def pX11_pourE (s0 : RS) (s1 : RS) (a0 : Int32) (a1 : Int32) (a2 : Int32) (a3 : Int32) (a4 : Int32) : Option (Bool × RS × RS) :=
  (pX11_isTray a0).bind fun x1 =>
  if x1 = true then
    (pX11_isTray a2).bind fun x3 =>
    if x3 = true then
      g_in a0 4 (
      g_in a2 4 (
      (pX9_isMissing s1).bind fun x4 =>
      if x4 = true then
        X11_pourE_j52 s0 s1
      else
        (pX9_isMissing s1).bind fun x6 =>
        if x6 = true then
          X11_pourE_j52 s0 s1
        else
          if (s1.1 1) = (s1.1 1) then
            if 0 ≤ a4 then
              (pX9_spans s1 a1 a4).bind fun x7 =>
              if x7 = true then
                (pX9_spans s1 a3 a4).bind fun x9 =>
                if x9 = true then
                  g_cp a1 a3 a4 60 60 (thn (uB s1 0 (va_cpy (s1.2.2.2 0) (s1.2.2.2 0) a1.toNatClampNeg a3.toNatClampNeg a4.toNatClampNeg)) fun s_10 =>
                  (pX11_grant s0).bind fun x11 =>
                  some (x11.1, x11.2, s_10))
                else
                  X11_pourE_j113 s0 s1
              else
                X11_pourE_j113 s0 s1
            else
              (pX11_deny s0 (6 : Int32)).bind fun x12 =>
              some (x12.1, x12.2, s1)
          else
            (pX11_deny s0 (11 : Int32)).bind fun x13 =>
            some (x13.1, x13.2, s1)))
    else
      X11_pourE_j14 s0 s1
  else
    X11_pourE_j14 s0 s1
theorem pX11_pourE_w (ho : xok [(11, b0), (9, b1)] h.2.1) (ht_a0 : vp_in a0 4 → b0 + 79 + 2 * a0.toNatClampNeg = b1) (ht_a2 : vp_in a2 4 → b0 + 79 + 2 * a2.toNatClampNeg = b1) (s0 : RS) (s1 : RS) (a1 : Int32) (a3 : Int32) (a4 : Int32) : aS l 1 MX11_pour n0 S0 (oΦ (fun (x : Bool × RS × RS) => ((some (.int (b2i x.1))), xw [(11, b0, f0, x.2.1), (9, b1, f1, x.2.2)] h))) 0 [(0, .ref b0), (1, .int a0), (2, .int a1), (3, .int a2), (4, .int a3), (5, .int a4)] [] (xw [(11, b0, f0, s0), (9, b1, f1, s1)] h) (pX11_pourE s0 s1 a0 a1 a2 a3 a4) := by
  unfold pX11_pourE
  refine s_iload_n (pc := 0) 1 dX11_pour_0 rfl ?_
  refine s_callS (M := MX11_pour) (As := [.int a0]) (st := []) (Ψ := fun (x : Bool) => (some (.int (b2i x)), xw [(11, b0, f0, s0), (9, b1, f1, s1)] h)) cs_X11_80 (by decide) (pc := 1) dX11_pour_1 rfl (Nat.le_of_ble_eq_true rfl) (fun x hx => pX11_isTray_ok a0 x hx) rfl (fun x1 _ => ?_)
  refine s_if_eqB (tgt := 14) (pc := 4) dX11_pour_4 (by decide) (fun _ => ?_) (fun _ => ?_)
  · refine s_iload_n (pc := 7) 3 dX11_pour_7 rfl ?_
    refine s_callS (M := MX11_pour) (As := [.int a2]) (st := []) (Ψ := fun (x : Bool) => (some (.int (b2i x)), xw [(11, b0, f0, s0), (9, b1, f1, s1)] h)) cs_X11_80 (by decide) (pc := 8) dX11_pour_8 rfl (Nat.le_of_ble_eq_true rfl) (fun x hx => pX11_isTray_ok a2 x hx) rfl (fun x3 _ => ?_)
    refine s_if_neB (tgt := 20) (pc := 11) dX11_pour_11 (by decide) (fun _ => ?_) (fun _ => ?_)
    · refine s_aload_n (pc := 20) 0 dX11_pour_20 rfl ?_
      refine xg_X11_11 0 ho rfl (pc := 21) dX11_pour_21 rfl ?_
      refine s_iload_n (pc := 24) 1 dX11_pour_24 rfl ?_
      refine x_trays 0 ho rfl ht_a0 (pc := 25) dX11_pour_25 ?_
      refine s_astore (lv' := [(6, .ref b1), (0, .ref b0), (1, .int a0), (2, .int a1), (3, .int a2), (4, .int a3), (5, .int a4)]) (pc := 26) dX11_pour_26 (by decide) rfl ?_
      refine s_aload_n (pc := 28) 1 dX11_pour_28 rfl ?_
      refine xg_X11_11 0 ho rfl (pc := 29) dX11_pour_29 rfl ?_
      refine s_iload_n (pc := 32) 4 dX11_pour_32 rfl ?_
      refine x_trays 0 ho rfl ht_a2 (pc := 33) dX11_pour_33 ?_
      refine s_astore (lv' := [(7, .ref b1), (6, .ref b1), (0, .ref b0), (1, .int a0), (2, .int a1), (3, .int a2), (4, .int a3), (5, .int a4)]) (pc := 34) dX11_pour_34 (by decide) rfl ?_
      refine s_aload (pc := 36) 1 dX11_pour_36 rfl ?_
      refine x_callV (M := MX11_pour) (L := [(11, b0, f0, s0), (9, b1, f1, s1)]) (h := h) (j := 1) (As := []) (st := []) (A := fun (x : Bool) => some (.int (b2i x))) (Lc := [(9, b1, f1, s1)]) (Lr := fun (x : Bool) => [(9, b1, f1, s1)]) (L2 := fun (x : Bool) => [(11, b0, f0, s0), (9, b1, f1, s1)]) cv_X11_84 (by decide) (pc := 38) dX11_pour_38 ho rfl xc0_9 rfl rfl (Nat.le_of_ble_eq_true rfl) (xovs (L := [(11, b0, f0, s0), (9, b1, f1, s1)]) (h := h) [(1, (9, b1, f1, s1))] ho ⟨rfl, trivial⟩).1 (fun x => (xovs (L := [(11, b0, f0, s0), (9, b1, f1, s1)]) (h := h) [(1, (9, b1, f1, s1))] ho ⟨rfl, trivial⟩).1) (fun x hx => pX9_isMissing_ok (h := xw [(11, b0, f0, s0), (9, b1, f1, s1)] h) (f0 := f1) (xok_sub ho [1] rfl (by decide)) s1 x hx) rfl (fun x4 _ => ?_)
      refine s_if_neB (tgt := 52) (pc := 41) dX11_pour_41 (by decide) (fun _ => ?_) (fun _ => ?_)
      · refine s_sub [2] rfl ?_
        exact X11_pourE_j52_ok ho ht_a0 ht_a2 s0 s1
      · refine s_aload (pc := 44) 0 dX11_pour_44 rfl ?_
        refine x_callV (M := MX11_pour) (L := [(11, b0, f0, s0), (9, b1, f1, s1)]) (h := h) (j := 1) (As := []) (st := []) (A := fun (x : Bool) => some (.int (b2i x))) (Lc := [(9, b1, f1, s1)]) (Lr := fun (x : Bool) => [(9, b1, f1, s1)]) (L2 := fun (x : Bool) => [(11, b0, f0, s0), (9, b1, f1, s1)]) cv_X11_84 (by decide) (pc := 46) dX11_pour_46 ho rfl xc0_9 rfl rfl (Nat.le_of_ble_eq_true rfl) (xovs (L := [(11, b0, f0, s0), (9, b1, f1, s1)]) (h := h) [(1, (9, b1, f1, s1))] ho ⟨rfl, trivial⟩).1 (fun x => (xovs (L := [(11, b0, f0, s0), (9, b1, f1, s1)]) (h := h) [(1, (9, b1, f1, s1))] ho ⟨rfl, trivial⟩).1) (fun x hx => pX9_isMissing_ok (h := xw [(11, b0, f0, s0), (9, b1, f1, s1)] h) (f0 := f1) (xok_sub ho [1] rfl (by decide)) s1 x hx) rfl (fun x6 _ => ?_)
        refine s_if_eqB (tgt := 58) (pc := 49) dX11_pour_49 (by decide) (fun _ => ?_) (fun _ => ?_)
        · refine s_sub [2] rfl ?_
          exact X11_pourE_j52_ok ho ht_a0 ht_a2 s0 s1
        · refine s_aload (pc := 58) 1 dX11_pour_58 rfl ?_
          refine xg_X11_125 1 ho rfl (pc := 60) dX11_pour_60 rfl ?_
          refine s_aload (pc := 63) 0 dX11_pour_63 rfl ?_
          refine xg_X11_125 1 ho rfl (pc := 65) dX11_pour_65 rfl ?_
          refine s_icmp_eq (tgt := 78) (pc := 68) dX11_pour_68 (by decide) (fun _ => ?_) (fun _ => ?_)
          · refine s_iload (pc := 78) 7 dX11_pour_78 rfl ?_
            refine s_if_ge (tgt := 90) (pc := 80) dX11_pour_80 (by decide) (fun _ => ?_) (fun _ => ?_)
            · refine s_aload (pc := 90) 1 dX11_pour_90 rfl ?_
              refine s_iload_n (pc := 92) 4 dX11_pour_92 rfl ?_
              refine s_iload (pc := 93) 7 dX11_pour_93 rfl ?_
              refine x_callV (M := MX11_pour) (L := [(11, b0, f0, s0), (9, b1, f1, s1)]) (h := h) (j := 1) (As := [.int a1, .int a4]) (st := []) (A := fun (x : Bool) => some (.int (b2i x))) (Lc := [(9, b1, f1, s1)]) (Lr := fun (x : Bool) => [(9, b1, f1, s1)]) (L2 := fun (x : Bool) => [(11, b0, f0, s0), (9, b1, f1, s1)]) cv_X11_88 (by decide) (pc := 95) dX11_pour_95 ho rfl xc0_9 rfl rfl (Nat.le_of_ble_eq_true rfl) (xovs (L := [(11, b0, f0, s0), (9, b1, f1, s1)]) (h := h) [(1, (9, b1, f1, s1))] ho ⟨rfl, trivial⟩).1 (fun x => (xovs (L := [(11, b0, f0, s0), (9, b1, f1, s1)]) (h := h) [(1, (9, b1, f1, s1))] ho ⟨rfl, trivial⟩).1) (fun x hx => pX9_spans_ok (h := xw [(11, b0, f0, s0), (9, b1, f1, s1)] h) (f0 := f1) (xok_sub ho [1] rfl (by decide)) s1 a1 a4 x hx) rfl (fun x7 _ => ?_)
              refine s_if_eqB (tgt := 113) (pc := 98) dX11_pour_98 (by decide) (fun _ => ?_) (fun _ => ?_)
              · refine s_aload (pc := 101) 0 dX11_pour_101 rfl ?_
                refine s_iload (pc := 103) 6 dX11_pour_103 rfl ?_
                refine s_iload (pc := 105) 7 dX11_pour_105 rfl ?_
                refine x_callV (M := MX11_pour) (L := [(11, b0, f0, s0), (9, b1, f1, s1)]) (h := h) (j := 1) (As := [.int a3, .int a4]) (st := []) (A := fun (x : Bool) => some (.int (b2i x))) (Lc := [(9, b1, f1, s1)]) (Lr := fun (x : Bool) => [(9, b1, f1, s1)]) (L2 := fun (x : Bool) => [(11, b0, f0, s0), (9, b1, f1, s1)]) cv_X11_88 (by decide) (pc := 107) dX11_pour_107 ho rfl xc0_9 rfl rfl (Nat.le_of_ble_eq_true rfl) (xovs (L := [(11, b0, f0, s0), (9, b1, f1, s1)]) (h := h) [(1, (9, b1, f1, s1))] ho ⟨rfl, trivial⟩).1 (fun x => (xovs (L := [(11, b0, f0, s0), (9, b1, f1, s1)]) (h := h) [(1, (9, b1, f1, s1))] ho ⟨rfl, trivial⟩).1) (fun x hx => pX9_spans_ok (h := xw [(11, b0, f0, s0), (9, b1, f1, s1)] h) (f0 := f1) (xok_sub ho [1] rfl (by decide)) s1 a3 a4 x hx) rfl (fun x9 _ => ?_)
                refine s_if_neB (tgt := 119) (pc := 110) dX11_pour_110 (by decide) (fun _ => ?_) (fun _ => ?_)
                · refine s_aload (pc := 119) 1 dX11_pour_119 rfl ?_
                  refine xg_X11_128 1 ho rfl (pc := 121) dX11_pour_121 rfl ?_
                  refine s_iload_n (pc := 124) 4 dX11_pour_124 rfl ?_
                  refine s_aload (pc := 125) 0 dX11_pour_125 rfl ?_
                  refine xg_X11_128 1 ho rfl (pc := 127) dX11_pour_127 rfl ?_
                  refine s_iload (pc := 130) 6 dX11_pour_130 rfl ?_
                  refine s_iload (pc := 132) 7 dX11_pour_132 rfl ?_
                  refine x_copyL (L' := fun s_10 => [(11, b0, f0, s0), (9, b1, f1, s_10)]) (s' := uB s1 0 (va_cpy (s1.2.2.2 0) (s1.2.2.2 0) a1.toNatClampNeg a3.toNatClampNeg a4.toNatClampNeg)) 1 1 ho rfl rfl rfl rfl rfl rfl rfl xu9_0 (fun _ => rfl) wm_X11_132 (by decide) (Nat.le_of_ble_eq_true rfl) (pc := 134) dX11_pour_134 (fun s_10 => ?_)
                  refine s_aload_n (pc := 137) 2 dX11_pour_137 rfl ?_
                  refine x_callV (M := MX11_pour) (L := [(11, b0, f0, s0), (9, b1, f1, s_10)]) (h := h) (j := 0) (As := []) (st := []) (A := fun (x : Bool × RS) => some (.int (b2i x.1))) (Lc := [(11, b0, f0, s0)]) (Lr := fun (x : Bool × RS) => [(11, b0, f0, x.2)]) (L2 := fun (x : Bool × RS) => [(11, b0, f0, x.2), (9, b1, f1, s_10)]) cv_X11_102 (by decide) (pc := 138) dX11_pour_138 ho rfl xc0_11 rfl rfl (Nat.le_of_ble_eq_true rfl) (xovs (L := [(11, b0, f0, s0), (9, b1, f1, s_10)]) (h := h) [(0, (11, b0, f0, s0))] ho ⟨rfl, trivial⟩).1 (fun x => (xovs (L := [(11, b0, f0, s0), (9, b1, f1, s_10)]) (h := h) [(0, (11, b0, f0, x.2))] ho ⟨rfl, trivial⟩).1) (fun x hx => pX11_grant_ok (h := xw [(11, b0, f0, s0), (9, b1, f1, s_10)] h) (f0 := f0) (xok_sub ho [0] rfl (by decide)) s0 x hx) rfl (fun x11 _ => ?_)
                  exact s_zretB (b := x11.1) (pc := 141) dX11_pour_141 rfl (fun _ _ q => q)
                · refine s_sub [2] rfl ?_
                  exact X11_pourE_j113_ok ho ht_a0 ht_a2 s0 s1
              · refine s_sub [2] rfl ?_
                exact X11_pourE_j113_ok ho ht_a0 ht_a2 s0 s1
            · refine s_aload_n (pc := 83) 2 dX11_pour_83 rfl ?_
              refine s_bipush (v := 6) (pc := 84) dX11_pour_84 (by decide) ?_
              refine x_callV (M := MX11_pour) (L := [(11, b0, f0, s0), (9, b1, f1, s1)]) (h := h) (j := 0) (As := [.int 6]) (st := []) (A := fun (x : Bool × RS) => some (.int (b2i x.1))) (Lc := [(11, b0, f0, s0)]) (Lr := fun (x : Bool × RS) => [(11, b0, f0, x.2)]) (L2 := fun (x : Bool × RS) => [(11, b0, f0, x.2), (9, b1, f1, s1)]) cv_X11_95 (by decide) (pc := 86) dX11_pour_86 ho rfl xc0_11 rfl rfl (Nat.le_of_ble_eq_true rfl) (xovs (L := [(11, b0, f0, s0), (9, b1, f1, s1)]) (h := h) [(0, (11, b0, f0, s0))] ho ⟨rfl, trivial⟩).1 (fun x => (xovs (L := [(11, b0, f0, s0), (9, b1, f1, s1)]) (h := h) [(0, (11, b0, f0, x.2))] ho ⟨rfl, trivial⟩).1) (fun x hx => pX11_deny_ok (h := xw [(11, b0, f0, s0), (9, b1, f1, s1)] h) (f0 := f0) (xok_sub ho [0] rfl (by decide)) s0 (6 : Int32) x hx) rfl (fun x12 _ => ?_)
              exact s_zretB (b := x12.1) (pc := 89) dX11_pour_89 rfl (fun _ _ q => q)
          · refine s_aload_n (pc := 71) 2 dX11_pour_71 rfl ?_
            refine s_bipush (v := 11) (pc := 72) dX11_pour_72 (by decide) ?_
            refine x_callV (M := MX11_pour) (L := [(11, b0, f0, s0), (9, b1, f1, s1)]) (h := h) (j := 0) (As := [.int 11]) (st := []) (A := fun (x : Bool × RS) => some (.int (b2i x.1))) (Lc := [(11, b0, f0, s0)]) (Lr := fun (x : Bool × RS) => [(11, b0, f0, x.2)]) (L2 := fun (x : Bool × RS) => [(11, b0, f0, x.2), (9, b1, f1, s1)]) cv_X11_95 (by decide) (pc := 74) dX11_pour_74 ho rfl xc0_11 rfl rfl (Nat.le_of_ble_eq_true rfl) (xovs (L := [(11, b0, f0, s0), (9, b1, f1, s1)]) (h := h) [(0, (11, b0, f0, s0))] ho ⟨rfl, trivial⟩).1 (fun x => (xovs (L := [(11, b0, f0, s0), (9, b1, f1, s1)]) (h := h) [(0, (11, b0, f0, x.2))] ho ⟨rfl, trivial⟩).1) (fun x hx => pX11_deny_ok (h := xw [(11, b0, f0, s0), (9, b1, f1, s1)] h) (f0 := f0) (xok_sub ho [0] rfl (by decide)) s0 (11 : Int32) x hx) rfl (fun x13 _ => ?_)
            exact s_zretB (b := x13.1) (pc := 77) dX11_pour_77 rfl (fun _ _ q => q)
    · refine s_sub [0] rfl ?_
      exact X11_pourE_j14_ok ho ht_a0 ht_a2 s0 s1
  · refine s_sub [0] rfl ?_
    exact X11_pourE_j14_ok ho ht_a0 ht_a2 s0 s1
theorem pX11_pourE_ok (ho : xok [(11, b0), (9, b1)] h.2.1) (ht_a0 : vp_in a0 4 → b0 + 79 + 2 * a0.toNatClampNeg = b1) (ht_a2 : vp_in a2 4 → b0 + 79 + 2 * a2.toNatClampNeg = b1) (s0 : RS) (s1 : RS) (a1 : Int32) (a3 : Int32) (a4 : Int32) : ∀ x, pX11_pourE s0 s1 a0 a1 a2 a3 a4 = some x → aMet l 1 yX11_pour cX11_pour 8 (some .boolean) [.ref b0, .int a0, .int a1, .int a2, .int a3, .int a4] (xw [(11, b0, f0, s0), (9, b1, f1, s1)] h) (some (.int (b2i x.1))) (xw [(11, b0, f0, x.2.1), (9, b1, f1, x.2.2)] h) := fun x hx => a_meth (ini := false) (y := yX11_pour) (by decide +kernel) (fun q => by cases q) (fun _ => Nat.le_of_ble_eq_true rfl) (pX11_pourE_w ho ht_a0 ht_a2 s0 s1 a1 a3 a4) x hx _ _ ⟨rfl, rfl⟩
end
section
variable {l : Launch} {n0 S0 : Nat} {h : aH} {b0 : Nat} {f0 f1 : Nat → Option Nat}
abbrev MX11_feed : aM := (cX11_feed, RX11, 6, (some .int), false)
def pX11_feed (s0 : RS) (s1 : RS) (a0 : Int32) (a1 : Int32) (a2 : Int32) (a3 : Int32) (a4 : Int32) : Option (Int32 × RS) :=
  (pX8_hasRoom s1 (20 : Int32)).bind fun x1 =>
  if x1 = true then
    (pX8_addBytes s1 a0).bind fun x2 =>
    (pX8_addBytes x2 a1).bind fun x3 =>
    (pX8_addBytes x3 a2).bind fun x4 =>
    (pX8_addBytes x4 a3).bind fun x5 =>
    (pX8_addBytes x5 a4).bind fun x6 =>
    some ((x6.1 2), x6)
  else
    some ((-1 : Int32), s1)
theorem pX11_feed_w (ho : xok [(11, b0), (8, (b0 + 2))] h.2.1) (s0 : RS) (s1 : RS) (a0 : Int32) (a1 : Int32) (a2 : Int32) (a3 : Int32) (a4 : Int32) : aS l 1 MX11_feed n0 S0 (oΦ (fun (x : Int32 × RS) => ((some (.int x.1)), xw [(11, b0, f0, s0), (8, (b0 + 2), f1, x.2)] h))) 0 [(0, .ref b0), (1, .int a0), (2, .int a1), (3, .int a2), (4, .int a3), (5, .int a4)] [] (xw [(11, b0, f0, s0), (8, (b0 + 2), f1, s1)] h) (pX11_feed s0 s1 a0 a1 a2 a3 a4) := by
  unfold pX11_feed
  refine s_aload_n (pc := 0) 0 dX11_feed_0 rfl ?_
  refine xg_X11_18 0 ho rfl (pc := 1) dX11_feed_1 rfl ?_
  refine s_bipush (v := 20) (pc := 4) dX11_feed_4 (by decide) ?_
  refine x_callV (M := MX11_feed) (L := [(11, b0, f0, s0), (8, (b0 + 2), f1, s1)]) (h := h) (j := 1) (As := [.int 20]) (st := []) (A := fun (x : Bool) => some (.int (b2i x))) (Lc := [(8, (b0 + 2), f1, s1)]) (Lr := fun (x : Bool) => [(8, (b0 + 2), f1, s1)]) (L2 := fun (x : Bool) => [(11, b0, f0, s0), (8, (b0 + 2), f1, s1)]) cv_X11_138 (by decide) (pc := 6) dX11_feed_6 ho rfl xc0_8 rfl rfl (Nat.le_of_ble_eq_true rfl) (xovs (L := [(11, b0, f0, s0), (8, (b0 + 2), f1, s1)]) (h := h) [(1, (8, (b0 + 2), f1, s1))] ho ⟨rfl, trivial⟩).1 (fun x => (xovs (L := [(11, b0, f0, s0), (8, (b0 + 2), f1, s1)]) (h := h) [(1, (8, (b0 + 2), f1, s1))] ho ⟨rfl, trivial⟩).1) (fun x hx => pX8_hasRoom_ok (h := xw [(11, b0, f0, s0), (8, (b0 + 2), f1, s1)] h) (f0 := f1) (xok_sub ho [1] rfl (by decide)) s1 (20 : Int32) x hx) rfl (fun x1 _ => ?_)
  refine s_if_neB (tgt := 14) (pc := 9) dX11_feed_9 (by decide) (fun _ => ?_) (fun _ => ?_)
  · refine s_aload_n (pc := 14) 0 dX11_feed_14 rfl ?_
    refine xg_X11_18 0 ho rfl (pc := 15) dX11_feed_15 rfl ?_
    refine s_iload_n (pc := 18) 1 dX11_feed_18 rfl ?_
    refine x_callV (M := MX11_feed) (L := [(11, b0, f0, s0), (8, (b0 + 2), f1, s1)]) (h := h) (j := 1) (As := [.int a0]) (st := []) (A := fun (x : RS) => none) (Lc := [(8, (b0 + 2), f1, s1)]) (Lr := fun (x : RS) => [(8, (b0 + 2), f1, x)]) (L2 := fun (x : RS) => [(11, b0, f0, s0), (8, (b0 + 2), f1, x)]) cv_X11_141 (by decide) (pc := 19) dX11_feed_19 ho rfl xc0_8 rfl rfl (Nat.le_of_ble_eq_true rfl) (xovs (L := [(11, b0, f0, s0), (8, (b0 + 2), f1, s1)]) (h := h) [(1, (8, (b0 + 2), f1, s1))] ho ⟨rfl, trivial⟩).1 (fun x => (xovs (L := [(11, b0, f0, s0), (8, (b0 + 2), f1, s1)]) (h := h) [(1, (8, (b0 + 2), f1, x))] ho ⟨rfl, trivial⟩).1) (fun x hx => pX8_addBytes_ok (h := xw [(11, b0, f0, s0), (8, (b0 + 2), f1, s1)] h) (f0 := f1) (xok_sub ho [1] rfl (by decide)) s1 a0 x hx) rfl (fun x2 _ => ?_)
    refine s_aload_n (pc := 22) 0 dX11_feed_22 rfl ?_
    refine xg_X11_18 0 ho rfl (pc := 23) dX11_feed_23 rfl ?_
    refine s_iload_n (pc := 26) 2 dX11_feed_26 rfl ?_
    refine x_callV (M := MX11_feed) (L := [(11, b0, f0, s0), (8, (b0 + 2), f1, x2)]) (h := h) (j := 1) (As := [.int a1]) (st := []) (A := fun (x : RS) => none) (Lc := [(8, (b0 + 2), f1, x2)]) (Lr := fun (x : RS) => [(8, (b0 + 2), f1, x)]) (L2 := fun (x : RS) => [(11, b0, f0, s0), (8, (b0 + 2), f1, x)]) cv_X11_141 (by decide) (pc := 27) dX11_feed_27 ho rfl xc0_8 rfl rfl (Nat.le_of_ble_eq_true rfl) (xovs (L := [(11, b0, f0, s0), (8, (b0 + 2), f1, x2)]) (h := h) [(1, (8, (b0 + 2), f1, x2))] ho ⟨rfl, trivial⟩).1 (fun x => (xovs (L := [(11, b0, f0, s0), (8, (b0 + 2), f1, x2)]) (h := h) [(1, (8, (b0 + 2), f1, x))] ho ⟨rfl, trivial⟩).1) (fun x hx => pX8_addBytes_ok (h := xw [(11, b0, f0, s0), (8, (b0 + 2), f1, x2)] h) (f0 := f1) (xok_sub ho [1] rfl (by decide)) x2 a1 x hx) rfl (fun x3 _ => ?_)
    refine s_aload_n (pc := 30) 0 dX11_feed_30 rfl ?_
    refine xg_X11_18 0 ho rfl (pc := 31) dX11_feed_31 rfl ?_
    refine s_iload_n (pc := 34) 3 dX11_feed_34 rfl ?_
    refine x_callV (M := MX11_feed) (L := [(11, b0, f0, s0), (8, (b0 + 2), f1, x3)]) (h := h) (j := 1) (As := [.int a2]) (st := []) (A := fun (x : RS) => none) (Lc := [(8, (b0 + 2), f1, x3)]) (Lr := fun (x : RS) => [(8, (b0 + 2), f1, x)]) (L2 := fun (x : RS) => [(11, b0, f0, s0), (8, (b0 + 2), f1, x)]) cv_X11_141 (by decide) (pc := 35) dX11_feed_35 ho rfl xc0_8 rfl rfl (Nat.le_of_ble_eq_true rfl) (xovs (L := [(11, b0, f0, s0), (8, (b0 + 2), f1, x3)]) (h := h) [(1, (8, (b0 + 2), f1, x3))] ho ⟨rfl, trivial⟩).1 (fun x => (xovs (L := [(11, b0, f0, s0), (8, (b0 + 2), f1, x3)]) (h := h) [(1, (8, (b0 + 2), f1, x))] ho ⟨rfl, trivial⟩).1) (fun x hx => pX8_addBytes_ok (h := xw [(11, b0, f0, s0), (8, (b0 + 2), f1, x3)] h) (f0 := f1) (xok_sub ho [1] rfl (by decide)) x3 a2 x hx) rfl (fun x4 _ => ?_)
    refine s_aload_n (pc := 38) 0 dX11_feed_38 rfl ?_
    refine xg_X11_18 0 ho rfl (pc := 39) dX11_feed_39 rfl ?_
    refine s_iload (pc := 42) 4 dX11_feed_42 rfl ?_
    refine x_callV (M := MX11_feed) (L := [(11, b0, f0, s0), (8, (b0 + 2), f1, x4)]) (h := h) (j := 1) (As := [.int a3]) (st := []) (A := fun (x : RS) => none) (Lc := [(8, (b0 + 2), f1, x4)]) (Lr := fun (x : RS) => [(8, (b0 + 2), f1, x)]) (L2 := fun (x : RS) => [(11, b0, f0, s0), (8, (b0 + 2), f1, x)]) cv_X11_141 (by decide) (pc := 44) dX11_feed_44 ho rfl xc0_8 rfl rfl (Nat.le_of_ble_eq_true rfl) (xovs (L := [(11, b0, f0, s0), (8, (b0 + 2), f1, x4)]) (h := h) [(1, (8, (b0 + 2), f1, x4))] ho ⟨rfl, trivial⟩).1 (fun x => (xovs (L := [(11, b0, f0, s0), (8, (b0 + 2), f1, x4)]) (h := h) [(1, (8, (b0 + 2), f1, x))] ho ⟨rfl, trivial⟩).1) (fun x hx => pX8_addBytes_ok (h := xw [(11, b0, f0, s0), (8, (b0 + 2), f1, x4)] h) (f0 := f1) (xok_sub ho [1] rfl (by decide)) x4 a3 x hx) rfl (fun x5 _ => ?_)
    refine s_aload_n (pc := 47) 0 dX11_feed_47 rfl ?_
    refine xg_X11_18 0 ho rfl (pc := 48) dX11_feed_48 rfl ?_
    refine s_iload (pc := 51) 5 dX11_feed_51 rfl ?_
    refine x_callV (M := MX11_feed) (L := [(11, b0, f0, s0), (8, (b0 + 2), f1, x5)]) (h := h) (j := 1) (As := [.int a4]) (st := []) (A := fun (x : RS) => none) (Lc := [(8, (b0 + 2), f1, x5)]) (Lr := fun (x : RS) => [(8, (b0 + 2), f1, x)]) (L2 := fun (x : RS) => [(11, b0, f0, s0), (8, (b0 + 2), f1, x)]) cv_X11_141 (by decide) (pc := 53) dX11_feed_53 ho rfl xc0_8 rfl rfl (Nat.le_of_ble_eq_true rfl) (xovs (L := [(11, b0, f0, s0), (8, (b0 + 2), f1, x5)]) (h := h) [(1, (8, (b0 + 2), f1, x5))] ho ⟨rfl, trivial⟩).1 (fun x => (xovs (L := [(11, b0, f0, s0), (8, (b0 + 2), f1, x5)]) (h := h) [(1, (8, (b0 + 2), f1, x))] ho ⟨rfl, trivial⟩).1) (fun x hx => pX8_addBytes_ok (h := xw [(11, b0, f0, s0), (8, (b0 + 2), f1, x5)] h) (f0 := f1) (xok_sub ho [1] rfl (by decide)) x5 a4 x hx) rfl (fun x6 _ => ?_)
    refine s_aload_n (pc := 56) 0 dX11_feed_56 rfl ?_
    refine xg_X11_18 0 ho rfl (pc := 57) dX11_feed_57 rfl ?_
    refine xg_X11_145 1 ho rfl (pc := 60) dX11_feed_60 rfl ?_
    exact s_iret (pc := 63) dX11_feed_63 rfl (fun _ _ q => q)
  · refine s_iconst (v := (-1)) (pc := 12) dX11_feed_12 (by decide) ?_
    exact s_iret (pc := 13) dX11_feed_13 rfl (fun _ _ q => q)
theorem pX11_feed_ok (ho : xok [(11, b0), (8, (b0 + 2))] h.2.1) (s0 : RS) (s1 : RS) (a0 : Int32) (a1 : Int32) (a2 : Int32) (a3 : Int32) (a4 : Int32) : ∀ x, pX11_feed s0 s1 a0 a1 a2 a3 a4 = some x → aMet l 1 yX11_feed cX11_feed 6 (some .int) [.ref b0, .int a0, .int a1, .int a2, .int a3, .int a4] (xw [(11, b0, f0, s0), (8, (b0 + 2), f1, s1)] h) (some (.int x.1)) (xw [(11, b0, f0, s0), (8, (b0 + 2), f1, x.2)] h) := fun x hx => a_meth (ini := false) (y := yX11_feed) (by decide +kernel) (fun q => by cases q) (fun _ => Nat.le_of_ble_eq_true rfl) (pX11_feed_w ho s0 s1 a0 a1 a2 a3 a4) x hx _ _ ⟨rfl, rfl⟩
end
section
variable {l : Launch} {n0 S0 : Nat} {h : aH} {b0 : Nat} {f0 f1 : Nat → Option Nat}
abbrev MX11_fault : aM := (cX11_fault, RX11, 2, (some .int), false)
def pX11_fault (s0 : RS) (s1 : RS) (a0 : Int32) : Option Int32 :=
  if a0 = 0 then
    some (s1.1 3)
  else
    if a0 = (1 : Int32) then
      some (s1.1 4)
    else
      some (-1 : Int32)
theorem pX11_fault_w (ho : xok [(11, b0), (8, (b0 + 2))] h.2.1) (s0 : RS) (s1 : RS) (a0 : Int32) : aS l 0 MX11_fault n0 S0 (oΦ (fun (x : Int32) => ((some (.int x)), xw [(11, b0, f0, s0), (8, (b0 + 2), f1, s1)] h))) 0 [(0, .ref b0), (1, .int a0)] [] (xw [(11, b0, f0, s0), (8, (b0 + 2), f1, s1)] h) (pX11_fault s0 s1 a0) := by
  unfold pX11_fault
  refine s_iload_n (pc := 0) 1 dX11_fault_0 rfl ?_
  refine s_if_ne (tgt := 12) (pc := 1) dX11_fault_1 (by decide) (fun _ => ?_) (fun _ => ?_)
  · refine s_aload_n (pc := 4) 0 dX11_fault_4 rfl ?_
    refine xg_X11_18 0 ho rfl (pc := 5) dX11_fault_5 rfl ?_
    refine xg_X11_157 1 ho rfl (pc := 8) dX11_fault_8 rfl ?_
    exact s_iret (pc := 11) dX11_fault_11 rfl (fun _ _ q => q)
  · refine s_iload_n (pc := 12) 1 dX11_fault_12 rfl ?_
    refine s_iconst (v := 1) (pc := 13) dX11_fault_13 (by decide) ?_
    refine s_icmp_ne (tgt := 27) (pc := 14) dX11_fault_14 (by decide) (fun _ => ?_) (fun _ => ?_)
    · refine s_aload_n (pc := 17) 0 dX11_fault_17 rfl ?_
      refine xg_X11_18 0 ho rfl (pc := 18) dX11_fault_18 rfl ?_
      refine xg_X11_194 1 ho rfl (pc := 21) dX11_fault_21 rfl ?_
      refine s_goto (tgt := 28) (pc := 24) dX11_fault_24 (by decide) ?_
      exact s_iret (pc := 28) dX11_fault_28 rfl (fun _ _ q => q)
    · refine s_iconst (v := (-1)) (pc := 27) dX11_fault_27 (by decide) ?_
      exact s_iret (pc := 28) dX11_fault_28 rfl (fun _ _ q => q)
theorem pX11_fault_ok (ho : xok [(11, b0), (8, (b0 + 2))] h.2.1) (s0 : RS) (s1 : RS) (a0 : Int32) : ∀ x, pX11_fault s0 s1 a0 = some x → aMet l 0 yX11_fault cX11_fault 2 (some .int) [.ref b0, .int a0] (xw [(11, b0, f0, s0), (8, (b0 + 2), f1, s1)] h) (some (.int x)) (xw [(11, b0, f0, s0), (8, (b0 + 2), f1, s1)] h) := fun x hx => a_meth (ini := false) (y := yX11_fault) (by decide +kernel) (fun q => by cases q) (fun _ => Nat.le_of_ble_eq_true rfl) (pX11_fault_w ho s0 s1 a0) x hx _ _ ⟨rfl, rfl⟩
end
section
variable {l : Launch} {n0 S0 : Nat} {h : aH} {b0 b2 : Nat} {f0 f1 f2 : Nat → Option Nat}
abbrev MX11_many : aM := (cX11_many, RX11, 3, (some .int), false)
def pX11_many (s0 : RS) (s1 : RS) (s2 : RS) (a0 : Int32) : Option (Int32 × RS) :=
  if a0 = 0 then
    (pX11_tell s0 (s2.1 1)).bind fun x1 =>
    some (x1.1, x1.2)
  else
    if a0 = 1 then
      (pX11_tell s0 (s2.1 0)).bind fun x2 =>
      some (x2.1, x2.2)
    else
      if a0 = 2 then
        (pX0_allOfKind s2 (0 : Int32)).bind fun x3 =>
        (pJ6_bitCount_0f7a4 x3).bind fun x4 =>
        (pX11_tell s0 x4).bind fun x5 =>
        some (x5.1, x5.2)
      else
        if a0 = 3 then
          (pX0_countFoes s2).bind fun x6 =>
          (pX11_tell s0 x6).bind fun x7 =>
          some (x7.1, x7.2)
        else
          (pX11_refuse s0 (5 : Int32)).bind fun x8 =>
          some (x8.1, x8.2)
theorem pX11_many_w (ho : xok [(11, b0), (7, (b0 + 8)), (0, b2)] h.2.1) (hq_1_0 : f1 0 = some b2) (s0 : RS) (s1 : RS) (s2 : RS) (a0 : Int32) : aS l 2 MX11_many n0 S0 (oΦ (fun (x : Int32 × RS) => ((some (.int x.1)), xw [(11, b0, f0, x.2), (7, (b0 + 8), f1, s1), (0, b2, f2, s2)] h))) 0 [(0, .ref b0), (1, .int a0)] [] (xw [(11, b0, f0, s0), (7, (b0 + 8), f1, s1), (0, b2, f2, s2)] h) (pX11_many s0 s1 s2 a0) := by
  unfold pX11_many
  refine s_aload_n (pc := 0) 0 dX11_many_0 rfl ?_
  refine xg_X11_25 0 ho rfl (pc := 1) dX11_many_1 rfl ?_
  refine xg_X11_174 1 ho rfl (pc := 4) dX11_many_4 rfl hq_1_0 ?_
  refine s_astore_n (lv' := [(2, .ref b2), (0, .ref b0), (1, .int a0)]) (pc := 7) dX11_many_7 (by decide) rfl ?_
  refine s_iload_n (pc := 8) 2 dX11_many_8 rfl ?_
  refine s_case (c := a0 = 0) (fun c0 => ?_) (fun n9 => ?_)
  · refine s_tabIn (tgt := 40) (off := 31) (pc := 9) dX11_many_9 (by rw [c0]; decide) (by rw [c0]; decide) (by rw [c0]; rfl) (by decide) ?_
    refine s_aload_n (pc := 40) 1 dX11_many_40 rfl ?_
    refine s_aload_n (pc := 41) 0 dX11_many_41 rfl ?_
    refine xg_X11_164 2 ho rfl (pc := 42) dX11_many_42 rfl ?_
    refine x_callV (M := MX11_many) (L := [(11, b0, f0, s0), (7, (b0 + 8), f1, s1), (0, b2, f2, s2)]) (h := h) (j := 0) (As := [.int (s2.1 1)]) (st := []) (A := fun (x : Int32 × RS) => some (.int x.1)) (Lc := [(11, b0, f0, s0)]) (Lr := fun (x : Int32 × RS) => [(11, b0, f0, x.2)]) (L2 := fun (x : Int32 × RS) => [(11, b0, f0, x.2), (7, (b0 + 8), f1, s1), (0, b2, f2, s2)]) cv_X11_169 (by decide) (pc := 45) dX11_many_45 ho rfl xc0_11 rfl rfl (Nat.le_of_ble_eq_true rfl) (xovs (L := [(11, b0, f0, s0), (7, (b0 + 8), f1, s1), (0, b2, f2, s2)]) (h := h) [(0, (11, b0, f0, s0))] ho ⟨rfl, trivial⟩).1 (fun x => (xovs (L := [(11, b0, f0, s0), (7, (b0 + 8), f1, s1), (0, b2, f2, s2)]) (h := h) [(0, (11, b0, f0, x.2))] ho ⟨rfl, trivial⟩).1) (fun x hx => pX11_tell_ok (h := xw [(11, b0, f0, s0), (7, (b0 + 8), f1, s1), (0, b2, f2, s2)] h) (f0 := f0) (xok_sub ho [0] rfl (by decide)) s0 (s2.1 1) x hx) rfl (fun x1 _ => ?_)
    exact s_iret (pc := 48) dX11_many_48 rfl (fun _ _ q => q)
  · refine s_case (c := a0 = 1) (fun c0 => ?_) (fun n10 => ?_)
    · refine s_tabIn (tgt := 49) (off := 40) (pc := 9) dX11_many_9 (by rw [c0]; decide) (by rw [c0]; decide) (by rw [c0]; rfl) (by decide) ?_
      refine s_aload_n (pc := 49) 1 dX11_many_49 rfl ?_
      refine s_aload_n (pc := 50) 0 dX11_many_50 rfl ?_
      refine xg_X11_197 2 ho rfl (pc := 51) dX11_many_51 rfl ?_
      refine x_callV (M := MX11_many) (L := [(11, b0, f0, s0), (7, (b0 + 8), f1, s1), (0, b2, f2, s2)]) (h := h) (j := 0) (As := [.int (s2.1 0)]) (st := []) (A := fun (x : Int32 × RS) => some (.int x.1)) (Lc := [(11, b0, f0, s0)]) (Lr := fun (x : Int32 × RS) => [(11, b0, f0, x.2)]) (L2 := fun (x : Int32 × RS) => [(11, b0, f0, x.2), (7, (b0 + 8), f1, s1), (0, b2, f2, s2)]) cv_X11_169 (by decide) (pc := 54) dX11_many_54 ho rfl xc0_11 rfl rfl (Nat.le_of_ble_eq_true rfl) (xovs (L := [(11, b0, f0, s0), (7, (b0 + 8), f1, s1), (0, b2, f2, s2)]) (h := h) [(0, (11, b0, f0, s0))] ho ⟨rfl, trivial⟩).1 (fun x => (xovs (L := [(11, b0, f0, s0), (7, (b0 + 8), f1, s1), (0, b2, f2, s2)]) (h := h) [(0, (11, b0, f0, x.2))] ho ⟨rfl, trivial⟩).1) (fun x hx => pX11_tell_ok (h := xw [(11, b0, f0, s0), (7, (b0 + 8), f1, s1), (0, b2, f2, s2)] h) (f0 := f0) (xok_sub ho [0] rfl (by decide)) s0 (s2.1 0) x hx) rfl (fun x2 _ => ?_)
      exact s_iret (pc := 57) dX11_many_57 rfl (fun _ _ q => q)
    · refine s_case (c := a0 = 2) (fun c0 => ?_) (fun n11 => ?_)
      · refine s_tabIn (tgt := 58) (off := 49) (pc := 9) dX11_many_9 (by rw [c0]; decide) (by rw [c0]; decide) (by rw [c0]; rfl) (by decide) ?_
        refine s_aload_n (pc := 58) 1 dX11_many_58 rfl ?_
        refine s_aload_n (pc := 59) 0 dX11_many_59 rfl ?_
        refine s_iconst (v := 0) (pc := 60) dX11_many_60 (by decide) ?_
        refine x_callV (M := MX11_many) (L := [(11, b0, f0, s0), (7, (b0 + 8), f1, s1), (0, b2, f2, s2)]) (h := h) (j := 2) (As := [.int 0]) (st := [.ref b0]) (A := fun (x : Int32) => some (.int x)) (Lc := [(0, b2, f2, s2)]) (Lr := fun (x : Int32) => [(0, b2, f2, s2)]) (L2 := fun (x : Int32) => [(11, b0, f0, s0), (7, (b0 + 8), f1, s1), (0, b2, f2, s2)]) cv_X11_200 (by decide) (pc := 61) dX11_many_61 ho rfl xc0_0 rfl rfl (Nat.le_of_ble_eq_true rfl) (xovs (L := [(11, b0, f0, s0), (7, (b0 + 8), f1, s1), (0, b2, f2, s2)]) (h := h) [(2, (0, b2, f2, s2))] ho ⟨rfl, trivial⟩).1 (fun x => (xovs (L := [(11, b0, f0, s0), (7, (b0 + 8), f1, s1), (0, b2, f2, s2)]) (h := h) [(2, (0, b2, f2, s2))] ho ⟨rfl, trivial⟩).1) (fun x hx => pX0_allOfKind_ok (h := xw [(11, b0, f0, s0), (7, (b0 + 8), f1, s1), (0, b2, f2, s2)] h) (f0 := f2) (xok_sub ho [2] rfl (by decide)) s2 (0 : Int32) x hx) rfl (fun x3 _ => ?_)
        refine s_callS (M := MX11_many) (As := [.int x3]) (st := [.ref b0]) (Ψ := fun (x : Int32) => (some (.int x), xw [(11, b0, f0, s0), (7, (b0 + 8), f1, s1), (0, b2, f2, s2)] h)) cs_X11_203 (by decide) (pc := 64) dX11_many_64 rfl (Nat.le_of_ble_eq_true rfl) (fun x hx => pJ6_bitCount_0f7a4_ok x3 x hx) rfl (fun x4 _ => ?_)
        refine x_callV (M := MX11_many) (L := [(11, b0, f0, s0), (7, (b0 + 8), f1, s1), (0, b2, f2, s2)]) (h := h) (j := 0) (As := [.int x4]) (st := []) (A := fun (x : Int32 × RS) => some (.int x.1)) (Lc := [(11, b0, f0, s0)]) (Lr := fun (x : Int32 × RS) => [(11, b0, f0, x.2)]) (L2 := fun (x : Int32 × RS) => [(11, b0, f0, x.2), (7, (b0 + 8), f1, s1), (0, b2, f2, s2)]) cv_X11_169 (by decide) (pc := 67) dX11_many_67 ho rfl xc0_11 rfl rfl (Nat.le_of_ble_eq_true rfl) (xovs (L := [(11, b0, f0, s0), (7, (b0 + 8), f1, s1), (0, b2, f2, s2)]) (h := h) [(0, (11, b0, f0, s0))] ho ⟨rfl, trivial⟩).1 (fun x => (xovs (L := [(11, b0, f0, s0), (7, (b0 + 8), f1, s1), (0, b2, f2, s2)]) (h := h) [(0, (11, b0, f0, x.2))] ho ⟨rfl, trivial⟩).1) (fun x hx => pX11_tell_ok (h := xw [(11, b0, f0, s0), (7, (b0 + 8), f1, s1), (0, b2, f2, s2)] h) (f0 := f0) (xok_sub ho [0] rfl (by decide)) s0 x4 x hx) rfl (fun x5 _ => ?_)
        exact s_iret (pc := 70) dX11_many_70 rfl (fun _ _ q => q)
      · refine s_case (c := a0 = 3) (fun c0 => ?_) (fun n12 => ?_)
        · refine s_tabIn (tgt := 71) (off := 62) (pc := 9) dX11_many_9 (by rw [c0]; decide) (by rw [c0]; decide) (by rw [c0]; rfl) (by decide) ?_
          refine s_aload_n (pc := 71) 1 dX11_many_71 rfl ?_
          refine s_aload_n (pc := 72) 0 dX11_many_72 rfl ?_
          refine x_callV (M := MX11_many) (L := [(11, b0, f0, s0), (7, (b0 + 8), f1, s1), (0, b2, f2, s2)]) (h := h) (j := 2) (As := []) (st := [.ref b0]) (A := fun (x : Int32) => some (.int x)) (Lc := [(0, b2, f2, s2)]) (Lr := fun (x : Int32) => [(0, b2, f2, s2)]) (L2 := fun (x : Int32) => [(11, b0, f0, s0), (7, (b0 + 8), f1, s1), (0, b2, f2, s2)]) cv_X11_208 (by decide) (pc := 73) dX11_many_73 ho rfl xc0_0 rfl rfl (Nat.le_of_ble_eq_true rfl) (xovs (L := [(11, b0, f0, s0), (7, (b0 + 8), f1, s1), (0, b2, f2, s2)]) (h := h) [(2, (0, b2, f2, s2))] ho ⟨rfl, trivial⟩).1 (fun x => (xovs (L := [(11, b0, f0, s0), (7, (b0 + 8), f1, s1), (0, b2, f2, s2)]) (h := h) [(2, (0, b2, f2, s2))] ho ⟨rfl, trivial⟩).1) (fun x hx => pX0_countFoes_ok (h := xw [(11, b0, f0, s0), (7, (b0 + 8), f1, s1), (0, b2, f2, s2)] h) (f0 := f2) (xok_sub ho [2] rfl (by decide)) s2 x hx) rfl (fun x6 _ => ?_)
          refine x_callV (M := MX11_many) (L := [(11, b0, f0, s0), (7, (b0 + 8), f1, s1), (0, b2, f2, s2)]) (h := h) (j := 0) (As := [.int x6]) (st := []) (A := fun (x : Int32 × RS) => some (.int x.1)) (Lc := [(11, b0, f0, s0)]) (Lr := fun (x : Int32 × RS) => [(11, b0, f0, x.2)]) (L2 := fun (x : Int32 × RS) => [(11, b0, f0, x.2), (7, (b0 + 8), f1, s1), (0, b2, f2, s2)]) cv_X11_169 (by decide) (pc := 76) dX11_many_76 ho rfl xc0_11 rfl rfl (Nat.le_of_ble_eq_true rfl) (xovs (L := [(11, b0, f0, s0), (7, (b0 + 8), f1, s1), (0, b2, f2, s2)]) (h := h) [(0, (11, b0, f0, s0))] ho ⟨rfl, trivial⟩).1 (fun x => (xovs (L := [(11, b0, f0, s0), (7, (b0 + 8), f1, s1), (0, b2, f2, s2)]) (h := h) [(0, (11, b0, f0, x.2))] ho ⟨rfl, trivial⟩).1) (fun x hx => pX11_tell_ok (h := xw [(11, b0, f0, s0), (7, (b0 + 8), f1, s1), (0, b2, f2, s2)] h) (f0 := f0) (xok_sub ho [0] rfl (by decide)) s0 x6 x hx) rfl (fun x7 _ => ?_)
          exact s_iret (pc := 79) dX11_many_79 rfl (fun _ _ q => q)
        · refine s_tabOut (tgt := 80) (pc := 9) dX11_many_9 (sw_out (fun i h1 h2 => by
            have hi : i = 0 ∨ i = 1 ∨ i = 2 ∨ i = 3 := by omega
            rcases hi with rfl | rfl | rfl | rfl
            · exact fun q => n9 (q.trans (by decide))
            · exact fun q => n10 (q.trans (by decide))
            · exact fun q => n11 (q.trans (by decide))
            · exact fun q => n12 (q.trans (by decide)))) (by decide) ?_
          refine s_aload_n (pc := 80) 1 dX11_many_80 rfl ?_
          refine s_iconst (v := 5) (pc := 81) dX11_many_81 (by decide) ?_
          refine x_callV (M := MX11_many) (L := [(11, b0, f0, s0), (7, (b0 + 8), f1, s1), (0, b2, f2, s2)]) (h := h) (j := 0) (As := [.int 5]) (st := []) (A := fun (x : Int32 × RS) => some (.int x.1)) (Lc := [(11, b0, f0, s0)]) (Lr := fun (x : Int32 × RS) => [(11, b0, f0, x.2)]) (L2 := fun (x : Int32 × RS) => [(11, b0, f0, x.2), (7, (b0 + 8), f1, s1), (0, b2, f2, s2)]) cv_X11_113 (by decide) (pc := 82) dX11_many_82 ho rfl xc0_11 rfl rfl (Nat.le_of_ble_eq_true rfl) (xovs (L := [(11, b0, f0, s0), (7, (b0 + 8), f1, s1), (0, b2, f2, s2)]) (h := h) [(0, (11, b0, f0, s0))] ho ⟨rfl, trivial⟩).1 (fun x => (xovs (L := [(11, b0, f0, s0), (7, (b0 + 8), f1, s1), (0, b2, f2, s2)]) (h := h) [(0, (11, b0, f0, x.2))] ho ⟨rfl, trivial⟩).1) (fun x hx => pX11_refuse_ok (h := xw [(11, b0, f0, s0), (7, (b0 + 8), f1, s1), (0, b2, f2, s2)] h) (f0 := f0) (xok_sub ho [0] rfl (by decide)) s0 (5 : Int32) x hx) rfl (fun x8 _ => ?_)
          exact s_iret (pc := 85) dX11_many_85 rfl (fun _ _ q => q)
theorem pX11_many_ok (ho : xok [(11, b0), (7, (b0 + 8)), (0, b2)] h.2.1) (hq_1_0 : f1 0 = some b2) (s0 : RS) (s1 : RS) (s2 : RS) (a0 : Int32) : ∀ x, pX11_many s0 s1 s2 a0 = some x → aMet l 2 yX11_many cX11_many 3 (some .int) [.ref b0, .int a0] (xw [(11, b0, f0, s0), (7, (b0 + 8), f1, s1), (0, b2, f2, s2)] h) (some (.int x.1)) (xw [(11, b0, f0, x.2), (7, (b0 + 8), f1, s1), (0, b2, f2, s2)] h) := fun x hx => a_meth (ini := false) (y := yX11_many) (by decide +kernel) (fun q => by cases q) (fun _ => Nat.le_of_ble_eq_true rfl) (pX11_many_w ho hq_1_0 s0 s1 s2 a0) x hx _ _ ⟨rfl, rfl⟩
end
section
variable {l : Launch} {n0 S0 : Nat} {h : aH} {b0 b2 : Nat} {f0 f1 f2 : Nat → Option Nat}
abbrev MX11_change : aM := (cX11_change, RX11, 4, (some .int), false)
def pX11_change (s0 : RS) (s1 : RS) (s2 : RS) (a0 : Int32) (a1 : Int32) : Option (Int32 × RS) :=
  (pX0_isChange s2 a0).bind fun x1 =>
  if x1 = true then
    if a1 = 0 then
      g_in a0 16 (
      (pX11_tell s0 (s2.2.2.1 4 a0.toNatClampNeg)).bind fun x2 =>
      some (x2.1, x2.2))
    else
      if a1 = 1 then
        g_in a0 16 (
        (pX11_tell s0 (s2.2.2.1 5 a0.toNatClampNeg)).bind fun x3 =>
        some (x3.1, x3.2))
      else
        if a1 = 2 then
          (pX0_isPut s2 a0).bind fun x4 =>
          if x4 = true then
            g_in a0 16 (
            (pX11_tell s0 (s2.2.2.1 6 a0.toNatClampNeg)).bind fun x6 =>
            some (x6.1, x6.2))
          else
            (pX11_refuse s0 (8 : Int32)).bind fun x5 =>
            some (x5.1, x5.2)
        else
          if a1 = 3 then
            g_in a0 16 (
            (pX11_tell s0 (s2.2.2.1 7 a0.toNatClampNeg)).bind fun x7 =>
            some (x7.1, x7.2))
          else
            if a1 = 4 then
              g_in a0 16 (
              (pX11_tell s0 (s2.2.2.1 8 a0.toNatClampNeg)).bind fun x8 =>
              some (x8.1, x8.2))
            else
              (pX11_refuse s0 (5 : Int32)).bind fun x9 =>
              some (x9.1, x9.2)
  else
    (pX11_refuse s0 (2 : Int32)).bind fun x15 =>
    some (x15.1, x15.2)
theorem pX11_change_w (ho : xok [(11, b0), (7, (b0 + 8)), (0, b2)] h.2.1) (hq_1_0 : f1 0 = some b2) (s0 : RS) (s1 : RS) (s2 : RS) (a0 : Int32) (a1 : Int32) : aS l 2 MX11_change n0 S0 (oΦ (fun (x : Int32 × RS) => ((some (.int x.1)), xw [(11, b0, f0, x.2), (7, (b0 + 8), f1, s1), (0, b2, f2, s2)] h))) 0 [(0, .ref b0), (1, .int a0), (2, .int a1)] [] (xw [(11, b0, f0, s0), (7, (b0 + 8), f1, s1), (0, b2, f2, s2)] h) (pX11_change s0 s1 s2 a0 a1) := by
  unfold pX11_change
  refine s_aload_n (pc := 0) 0 dX11_change_0 rfl ?_
  refine xg_X11_25 0 ho rfl (pc := 1) dX11_change_1 rfl ?_
  refine xg_X11_174 1 ho rfl (pc := 4) dX11_change_4 rfl hq_1_0 ?_
  refine s_astore_n (lv' := [(3, .ref b2), (0, .ref b0), (1, .int a0), (2, .int a1)]) (pc := 7) dX11_change_7 (by decide) rfl ?_
  refine s_aload_n (pc := 8) 0 dX11_change_8 rfl ?_
  refine s_iload_n (pc := 9) 2 dX11_change_9 rfl ?_
  refine x_callV (M := MX11_change) (L := [(11, b0, f0, s0), (7, (b0 + 8), f1, s1), (0, b2, f2, s2)]) (h := h) (j := 2) (As := [.int a0]) (st := []) (A := fun (x : Bool) => some (.int (b2i x))) (Lc := [(0, b2, f2, s2)]) (Lr := fun (x : Bool) => [(0, b2, f2, s2)]) (L2 := fun (x : Bool) => [(11, b0, f0, s0), (7, (b0 + 8), f1, s1), (0, b2, f2, s2)]) cv_X11_212 (by decide) (pc := 10) dX11_change_10 ho rfl xc0_0 rfl rfl (Nat.le_of_ble_eq_true rfl) (xovs (L := [(11, b0, f0, s0), (7, (b0 + 8), f1, s1), (0, b2, f2, s2)]) (h := h) [(2, (0, b2, f2, s2))] ho ⟨rfl, trivial⟩).1 (fun x => (xovs (L := [(11, b0, f0, s0), (7, (b0 + 8), f1, s1), (0, b2, f2, s2)]) (h := h) [(2, (0, b2, f2, s2))] ho ⟨rfl, trivial⟩).1) (fun x hx => pX0_isChange_ok (h := xw [(11, b0, f0, s0), (7, (b0 + 8), f1, s1), (0, b2, f2, s2)] h) (f0 := f2) (xok_sub ho [2] rfl (by decide)) s2 a0 x hx) rfl (fun x1 _ => ?_)
  refine s_if_neB (tgt := 22) (pc := 13) dX11_change_13 (by decide) (fun _ => ?_) (fun _ => ?_)
  · refine s_iload_n (pc := 22) 3 dX11_change_22 rfl ?_
    refine s_case (c := a1 = 0) (fun c0 => ?_) (fun n10 => ?_)
    · refine s_tabIn (tgt := 56) (off := 33) (pc := 23) dX11_change_23 (by rw [c0]; decide) (by rw [c0]; decide) (by rw [c0]; rfl) (by decide) ?_
      refine s_aload_n (pc := 56) 1 dX11_change_56 rfl ?_
      refine s_aload_n (pc := 57) 0 dX11_change_57 rfl ?_
      refine xg_X11_215 2 ho rfl (pc := 58) dX11_change_58 rfl ?_
      refine s_iload_n (pc := 61) 2 dX11_change_61 rfl ?_
      refine xl_0_4 2 ho rfl (pc := 62) dX11_change_62 ?_
      refine x_callV (M := MX11_change) (L := [(11, b0, f0, s0), (7, (b0 + 8), f1, s1), (0, b2, f2, s2)]) (h := h) (j := 0) (As := [.int (s2.2.2.1 4 a0.toNatClampNeg)]) (st := []) (A := fun (x : Int32 × RS) => some (.int x.1)) (Lc := [(11, b0, f0, s0)]) (Lr := fun (x : Int32 × RS) => [(11, b0, f0, x.2)]) (L2 := fun (x : Int32 × RS) => [(11, b0, f0, x.2), (7, (b0 + 8), f1, s1), (0, b2, f2, s2)]) cv_X11_169 (by decide) (pc := 63) dX11_change_63 ho rfl xc0_11 rfl rfl (Nat.le_of_ble_eq_true rfl) (xovs (L := [(11, b0, f0, s0), (7, (b0 + 8), f1, s1), (0, b2, f2, s2)]) (h := h) [(0, (11, b0, f0, s0))] ho ⟨rfl, trivial⟩).1 (fun x => (xovs (L := [(11, b0, f0, s0), (7, (b0 + 8), f1, s1), (0, b2, f2, s2)]) (h := h) [(0, (11, b0, f0, x.2))] ho ⟨rfl, trivial⟩).1) (fun x hx => pX11_tell_ok (h := xw [(11, b0, f0, s0), (7, (b0 + 8), f1, s1), (0, b2, f2, s2)] h) (f0 := f0) (xok_sub ho [0] rfl (by decide)) s0 (s2.2.2.1 4 a0.toNatClampNeg) x hx) rfl (fun x2 _ => ?_)
      exact s_iret (pc := 66) dX11_change_66 rfl (fun _ _ q => q)
    · refine s_case (c := a1 = 1) (fun c0 => ?_) (fun n11 => ?_)
      · refine s_tabIn (tgt := 67) (off := 44) (pc := 23) dX11_change_23 (by rw [c0]; decide) (by rw [c0]; decide) (by rw [c0]; rfl) (by decide) ?_
        refine s_aload_n (pc := 67) 1 dX11_change_67 rfl ?_
        refine s_aload_n (pc := 68) 0 dX11_change_68 rfl ?_
        refine xg_X11_218 2 ho rfl (pc := 69) dX11_change_69 rfl ?_
        refine s_iload_n (pc := 72) 2 dX11_change_72 rfl ?_
        refine xl_0_5 2 ho rfl (pc := 73) dX11_change_73 ?_
        refine x_callV (M := MX11_change) (L := [(11, b0, f0, s0), (7, (b0 + 8), f1, s1), (0, b2, f2, s2)]) (h := h) (j := 0) (As := [.int (s2.2.2.1 5 a0.toNatClampNeg)]) (st := []) (A := fun (x : Int32 × RS) => some (.int x.1)) (Lc := [(11, b0, f0, s0)]) (Lr := fun (x : Int32 × RS) => [(11, b0, f0, x.2)]) (L2 := fun (x : Int32 × RS) => [(11, b0, f0, x.2), (7, (b0 + 8), f1, s1), (0, b2, f2, s2)]) cv_X11_169 (by decide) (pc := 74) dX11_change_74 ho rfl xc0_11 rfl rfl (Nat.le_of_ble_eq_true rfl) (xovs (L := [(11, b0, f0, s0), (7, (b0 + 8), f1, s1), (0, b2, f2, s2)]) (h := h) [(0, (11, b0, f0, s0))] ho ⟨rfl, trivial⟩).1 (fun x => (xovs (L := [(11, b0, f0, s0), (7, (b0 + 8), f1, s1), (0, b2, f2, s2)]) (h := h) [(0, (11, b0, f0, x.2))] ho ⟨rfl, trivial⟩).1) (fun x hx => pX11_tell_ok (h := xw [(11, b0, f0, s0), (7, (b0 + 8), f1, s1), (0, b2, f2, s2)] h) (f0 := f0) (xok_sub ho [0] rfl (by decide)) s0 (s2.2.2.1 5 a0.toNatClampNeg) x hx) rfl (fun x3 _ => ?_)
        exact s_iret (pc := 77) dX11_change_77 rfl (fun _ _ q => q)
      · refine s_case (c := a1 = 2) (fun c0 => ?_) (fun n12 => ?_)
        · refine s_tabIn (tgt := 78) (off := 55) (pc := 23) dX11_change_23 (by rw [c0]; decide) (by rw [c0]; decide) (by rw [c0]; rfl) (by decide) ?_
          refine s_aload_n (pc := 78) 0 dX11_change_78 rfl ?_
          refine s_iload_n (pc := 79) 2 dX11_change_79 rfl ?_
          refine x_callV (M := MX11_change) (L := [(11, b0, f0, s0), (7, (b0 + 8), f1, s1), (0, b2, f2, s2)]) (h := h) (j := 2) (As := [.int a0]) (st := []) (A := fun (x : Bool) => some (.int (b2i x))) (Lc := [(0, b2, f2, s2)]) (Lr := fun (x : Bool) => [(0, b2, f2, s2)]) (L2 := fun (x : Bool) => [(11, b0, f0, s0), (7, (b0 + 8), f1, s1), (0, b2, f2, s2)]) cv_X11_220 (by decide) (pc := 80) dX11_change_80 ho rfl xc0_0 rfl rfl (Nat.le_of_ble_eq_true rfl) (xovs (L := [(11, b0, f0, s0), (7, (b0 + 8), f1, s1), (0, b2, f2, s2)]) (h := h) [(2, (0, b2, f2, s2))] ho ⟨rfl, trivial⟩).1 (fun x => (xovs (L := [(11, b0, f0, s0), (7, (b0 + 8), f1, s1), (0, b2, f2, s2)]) (h := h) [(2, (0, b2, f2, s2))] ho ⟨rfl, trivial⟩).1) (fun x hx => pX0_isPut_ok (h := xw [(11, b0, f0, s0), (7, (b0 + 8), f1, s1), (0, b2, f2, s2)] h) (f0 := f2) (xok_sub ho [2] rfl (by decide)) s2 a0 x hx) rfl (fun x4 _ => ?_)
          refine s_if_eqB (tgt := 99) (pc := 83) dX11_change_83 (by decide) (fun _ => ?_) (fun _ => ?_)
          · refine s_aload_n (pc := 86) 1 dX11_change_86 rfl ?_
            refine s_aload_n (pc := 87) 0 dX11_change_87 rfl ?_
            refine xg_X11_223 2 ho rfl (pc := 88) dX11_change_88 rfl ?_
            refine s_iload_n (pc := 91) 2 dX11_change_91 rfl ?_
            refine xl_0_6 2 ho rfl (pc := 92) dX11_change_92 ?_
            refine x_callV (M := MX11_change) (L := [(11, b0, f0, s0), (7, (b0 + 8), f1, s1), (0, b2, f2, s2)]) (h := h) (j := 0) (As := [.int (s2.2.2.1 6 a0.toNatClampNeg)]) (st := []) (A := fun (x : Int32 × RS) => some (.int x.1)) (Lc := [(11, b0, f0, s0)]) (Lr := fun (x : Int32 × RS) => [(11, b0, f0, x.2)]) (L2 := fun (x : Int32 × RS) => [(11, b0, f0, x.2), (7, (b0 + 8), f1, s1), (0, b2, f2, s2)]) cv_X11_169 (by decide) (pc := 93) dX11_change_93 ho rfl xc0_11 rfl rfl (Nat.le_of_ble_eq_true rfl) (xovs (L := [(11, b0, f0, s0), (7, (b0 + 8), f1, s1), (0, b2, f2, s2)]) (h := h) [(0, (11, b0, f0, s0))] ho ⟨rfl, trivial⟩).1 (fun x => (xovs (L := [(11, b0, f0, s0), (7, (b0 + 8), f1, s1), (0, b2, f2, s2)]) (h := h) [(0, (11, b0, f0, x.2))] ho ⟨rfl, trivial⟩).1) (fun x hx => pX11_tell_ok (h := xw [(11, b0, f0, s0), (7, (b0 + 8), f1, s1), (0, b2, f2, s2)] h) (f0 := f0) (xok_sub ho [0] rfl (by decide)) s0 (s2.2.2.1 6 a0.toNatClampNeg) x hx) rfl (fun x6 _ => ?_)
            refine s_goto (tgt := 105) (pc := 96) dX11_change_96 (by decide) ?_
            exact s_iret (pc := 105) dX11_change_105 rfl (fun _ _ q => q)
          · refine s_aload_n (pc := 99) 1 dX11_change_99 rfl ?_
            refine s_bipush (v := 8) (pc := 100) dX11_change_100 (by decide) ?_
            refine x_callV (M := MX11_change) (L := [(11, b0, f0, s0), (7, (b0 + 8), f1, s1), (0, b2, f2, s2)]) (h := h) (j := 0) (As := [.int 8]) (st := []) (A := fun (x : Int32 × RS) => some (.int x.1)) (Lc := [(11, b0, f0, s0)]) (Lr := fun (x : Int32 × RS) => [(11, b0, f0, x.2)]) (L2 := fun (x : Int32 × RS) => [(11, b0, f0, x.2), (7, (b0 + 8), f1, s1), (0, b2, f2, s2)]) cv_X11_113 (by decide) (pc := 102) dX11_change_102 ho rfl xc0_11 rfl rfl (Nat.le_of_ble_eq_true rfl) (xovs (L := [(11, b0, f0, s0), (7, (b0 + 8), f1, s1), (0, b2, f2, s2)]) (h := h) [(0, (11, b0, f0, s0))] ho ⟨rfl, trivial⟩).1 (fun x => (xovs (L := [(11, b0, f0, s0), (7, (b0 + 8), f1, s1), (0, b2, f2, s2)]) (h := h) [(0, (11, b0, f0, x.2))] ho ⟨rfl, trivial⟩).1) (fun x hx => pX11_refuse_ok (h := xw [(11, b0, f0, s0), (7, (b0 + 8), f1, s1), (0, b2, f2, s2)] h) (f0 := f0) (xok_sub ho [0] rfl (by decide)) s0 (8 : Int32) x hx) rfl (fun x5 _ => ?_)
            exact s_iret (pc := 105) dX11_change_105 rfl (fun _ _ q => q)
        · refine s_case (c := a1 = 3) (fun c0 => ?_) (fun n13 => ?_)
          · refine s_tabIn (tgt := 106) (off := 83) (pc := 23) dX11_change_23 (by rw [c0]; decide) (by rw [c0]; decide) (by rw [c0]; rfl) (by decide) ?_
            refine s_aload_n (pc := 106) 1 dX11_change_106 rfl ?_
            refine s_aload_n (pc := 107) 0 dX11_change_107 rfl ?_
            refine xg_X11_226 2 ho rfl (pc := 108) dX11_change_108 rfl ?_
            refine s_iload_n (pc := 111) 2 dX11_change_111 rfl ?_
            refine xl_0_7 2 ho rfl (pc := 112) dX11_change_112 ?_
            refine x_callV (M := MX11_change) (L := [(11, b0, f0, s0), (7, (b0 + 8), f1, s1), (0, b2, f2, s2)]) (h := h) (j := 0) (As := [.int (s2.2.2.1 7 a0.toNatClampNeg)]) (st := []) (A := fun (x : Int32 × RS) => some (.int x.1)) (Lc := [(11, b0, f0, s0)]) (Lr := fun (x : Int32 × RS) => [(11, b0, f0, x.2)]) (L2 := fun (x : Int32 × RS) => [(11, b0, f0, x.2), (7, (b0 + 8), f1, s1), (0, b2, f2, s2)]) cv_X11_169 (by decide) (pc := 113) dX11_change_113 ho rfl xc0_11 rfl rfl (Nat.le_of_ble_eq_true rfl) (xovs (L := [(11, b0, f0, s0), (7, (b0 + 8), f1, s1), (0, b2, f2, s2)]) (h := h) [(0, (11, b0, f0, s0))] ho ⟨rfl, trivial⟩).1 (fun x => (xovs (L := [(11, b0, f0, s0), (7, (b0 + 8), f1, s1), (0, b2, f2, s2)]) (h := h) [(0, (11, b0, f0, x.2))] ho ⟨rfl, trivial⟩).1) (fun x hx => pX11_tell_ok (h := xw [(11, b0, f0, s0), (7, (b0 + 8), f1, s1), (0, b2, f2, s2)] h) (f0 := f0) (xok_sub ho [0] rfl (by decide)) s0 (s2.2.2.1 7 a0.toNatClampNeg) x hx) rfl (fun x7 _ => ?_)
            exact s_iret (pc := 116) dX11_change_116 rfl (fun _ _ q => q)
          · refine s_case (c := a1 = 4) (fun c0 => ?_) (fun n14 => ?_)
            · refine s_tabIn (tgt := 117) (off := 94) (pc := 23) dX11_change_23 (by rw [c0]; decide) (by rw [c0]; decide) (by rw [c0]; rfl) (by decide) ?_
              refine s_aload_n (pc := 117) 1 dX11_change_117 rfl ?_
              refine s_aload_n (pc := 118) 0 dX11_change_118 rfl ?_
              refine xg_X11_229 2 ho rfl (pc := 119) dX11_change_119 rfl ?_
              refine s_iload_n (pc := 122) 2 dX11_change_122 rfl ?_
              refine xl_0_8 2 ho rfl (pc := 123) dX11_change_123 ?_
              refine x_callV (M := MX11_change) (L := [(11, b0, f0, s0), (7, (b0 + 8), f1, s1), (0, b2, f2, s2)]) (h := h) (j := 0) (As := [.int (s2.2.2.1 8 a0.toNatClampNeg)]) (st := []) (A := fun (x : Int32 × RS) => some (.int x.1)) (Lc := [(11, b0, f0, s0)]) (Lr := fun (x : Int32 × RS) => [(11, b0, f0, x.2)]) (L2 := fun (x : Int32 × RS) => [(11, b0, f0, x.2), (7, (b0 + 8), f1, s1), (0, b2, f2, s2)]) cv_X11_169 (by decide) (pc := 124) dX11_change_124 ho rfl xc0_11 rfl rfl (Nat.le_of_ble_eq_true rfl) (xovs (L := [(11, b0, f0, s0), (7, (b0 + 8), f1, s1), (0, b2, f2, s2)]) (h := h) [(0, (11, b0, f0, s0))] ho ⟨rfl, trivial⟩).1 (fun x => (xovs (L := [(11, b0, f0, s0), (7, (b0 + 8), f1, s1), (0, b2, f2, s2)]) (h := h) [(0, (11, b0, f0, x.2))] ho ⟨rfl, trivial⟩).1) (fun x hx => pX11_tell_ok (h := xw [(11, b0, f0, s0), (7, (b0 + 8), f1, s1), (0, b2, f2, s2)] h) (f0 := f0) (xok_sub ho [0] rfl (by decide)) s0 (s2.2.2.1 8 a0.toNatClampNeg) x hx) rfl (fun x8 _ => ?_)
              exact s_iret (pc := 127) dX11_change_127 rfl (fun _ _ q => q)
            · refine s_tabOut (tgt := 128) (pc := 23) dX11_change_23 (sw_out (fun i h1 h2 => by
                have hi : i = 0 ∨ i = 1 ∨ i = 2 ∨ i = 3 ∨ i = 4 := by omega
                rcases hi with rfl | rfl | rfl | rfl | rfl
                · exact fun q => n10 (q.trans (by decide))
                · exact fun q => n11 (q.trans (by decide))
                · exact fun q => n12 (q.trans (by decide))
                · exact fun q => n13 (q.trans (by decide))
                · exact fun q => n14 (q.trans (by decide)))) (by decide) ?_
              refine s_aload_n (pc := 128) 1 dX11_change_128 rfl ?_
              refine s_iconst (v := 5) (pc := 129) dX11_change_129 (by decide) ?_
              refine x_callV (M := MX11_change) (L := [(11, b0, f0, s0), (7, (b0 + 8), f1, s1), (0, b2, f2, s2)]) (h := h) (j := 0) (As := [.int 5]) (st := []) (A := fun (x : Int32 × RS) => some (.int x.1)) (Lc := [(11, b0, f0, s0)]) (Lr := fun (x : Int32 × RS) => [(11, b0, f0, x.2)]) (L2 := fun (x : Int32 × RS) => [(11, b0, f0, x.2), (7, (b0 + 8), f1, s1), (0, b2, f2, s2)]) cv_X11_113 (by decide) (pc := 130) dX11_change_130 ho rfl xc0_11 rfl rfl (Nat.le_of_ble_eq_true rfl) (xovs (L := [(11, b0, f0, s0), (7, (b0 + 8), f1, s1), (0, b2, f2, s2)]) (h := h) [(0, (11, b0, f0, s0))] ho ⟨rfl, trivial⟩).1 (fun x => (xovs (L := [(11, b0, f0, s0), (7, (b0 + 8), f1, s1), (0, b2, f2, s2)]) (h := h) [(0, (11, b0, f0, x.2))] ho ⟨rfl, trivial⟩).1) (fun x hx => pX11_refuse_ok (h := xw [(11, b0, f0, s0), (7, (b0 + 8), f1, s1), (0, b2, f2, s2)] h) (f0 := f0) (xok_sub ho [0] rfl (by decide)) s0 (5 : Int32) x hx) rfl (fun x9 _ => ?_)
              exact s_iret (pc := 133) dX11_change_133 rfl (fun _ _ q => q)
  · refine s_aload_n (pc := 16) 1 dX11_change_16 rfl ?_
    refine s_iconst (v := 2) (pc := 17) dX11_change_17 (by decide) ?_
    refine x_callV (M := MX11_change) (L := [(11, b0, f0, s0), (7, (b0 + 8), f1, s1), (0, b2, f2, s2)]) (h := h) (j := 0) (As := [.int 2]) (st := []) (A := fun (x : Int32 × RS) => some (.int x.1)) (Lc := [(11, b0, f0, s0)]) (Lr := fun (x : Int32 × RS) => [(11, b0, f0, x.2)]) (L2 := fun (x : Int32 × RS) => [(11, b0, f0, x.2), (7, (b0 + 8), f1, s1), (0, b2, f2, s2)]) cv_X11_113 (by decide) (pc := 18) dX11_change_18 ho rfl xc0_11 rfl rfl (Nat.le_of_ble_eq_true rfl) (xovs (L := [(11, b0, f0, s0), (7, (b0 + 8), f1, s1), (0, b2, f2, s2)]) (h := h) [(0, (11, b0, f0, s0))] ho ⟨rfl, trivial⟩).1 (fun x => (xovs (L := [(11, b0, f0, s0), (7, (b0 + 8), f1, s1), (0, b2, f2, s2)]) (h := h) [(0, (11, b0, f0, x.2))] ho ⟨rfl, trivial⟩).1) (fun x hx => pX11_refuse_ok (h := xw [(11, b0, f0, s0), (7, (b0 + 8), f1, s1), (0, b2, f2, s2)] h) (f0 := f0) (xok_sub ho [0] rfl (by decide)) s0 (2 : Int32) x hx) rfl (fun x15 _ => ?_)
    exact s_iret (pc := 21) dX11_change_21 rfl (fun _ _ q => q)
theorem pX11_change_ok (ho : xok [(11, b0), (7, (b0 + 8)), (0, b2)] h.2.1) (hq_1_0 : f1 0 = some b2) (s0 : RS) (s1 : RS) (s2 : RS) (a0 : Int32) (a1 : Int32) : ∀ x, pX11_change s0 s1 s2 a0 a1 = some x → aMet l 2 yX11_change cX11_change 4 (some .int) [.ref b0, .int a0, .int a1] (xw [(11, b0, f0, s0), (7, (b0 + 8), f1, s1), (0, b2, f2, s2)] h) (some (.int x.1)) (xw [(11, b0, f0, x.2), (7, (b0 + 8), f1, s1), (0, b2, f2, s2)] h) := fun x hx => a_meth (ini := false) (y := yX11_change) (by decide +kernel) (fun q => by cases q) (fun _ => Nat.le_of_ble_eq_true rfl) (pX11_change_w ho hq_1_0 s0 s1 s2 a0 a1) x hx _ _ ⟨rfl, rfl⟩
end
section
variable {l : Launch} {n0 S0 : Nat} {h : aH} {b0 b2 : Nat} {f0 f1 f2 : Nat → Option Nat}
abbrev MX11_hangs : aM := (cX11_hangs, RX11, 4, (some .int), false)
def pX11_hangs (s0 : RS) (s1 : RS) (s2 : RS) (a0 : Int32) (a1 : Int32) : Option (Int32 × RS) :=
  (pX0_isChange s2 a0).bind fun x1 =>
  if x1 = true then
    if a1 = 0 then
      g_in a0 16 (
      (pX11_tell s0 (s2.2.2.1 9 a0.toNatClampNeg)).bind fun x2 =>
      some (x2.1, x2.2))
    else
      if a1 = 1 then
        g_in a0 16 (
        (pX11_tell s0 (s2.2.2.1 10 a0.toNatClampNeg)).bind fun x3 =>
        some (x3.1, x3.2))
      else
        if a1 = 2 then
          g_in a0 16 (
          (pX11_tell s0 (s2.2.2.1 11 a0.toNatClampNeg)).bind fun x4 =>
          some (x4.1, x4.2))
        else
          (pX11_refuse s0 (5 : Int32)).bind fun x5 =>
          some (x5.1, x5.2)
  else
    (pX11_refuse s0 (2 : Int32)).bind fun x9 =>
    some (x9.1, x9.2)
theorem pX11_hangs_w (ho : xok [(11, b0), (7, (b0 + 8)), (0, b2)] h.2.1) (hq_1_0 : f1 0 = some b2) (s0 : RS) (s1 : RS) (s2 : RS) (a0 : Int32) (a1 : Int32) : aS l 1 MX11_hangs n0 S0 (oΦ (fun (x : Int32 × RS) => ((some (.int x.1)), xw [(11, b0, f0, x.2), (7, (b0 + 8), f1, s1), (0, b2, f2, s2)] h))) 0 [(0, .ref b0), (1, .int a0), (2, .int a1)] [] (xw [(11, b0, f0, s0), (7, (b0 + 8), f1, s1), (0, b2, f2, s2)] h) (pX11_hangs s0 s1 s2 a0 a1) := by
  unfold pX11_hangs
  refine s_aload_n (pc := 0) 0 dX11_hangs_0 rfl ?_
  refine xg_X11_25 0 ho rfl (pc := 1) dX11_hangs_1 rfl ?_
  refine xg_X11_174 1 ho rfl (pc := 4) dX11_hangs_4 rfl hq_1_0 ?_
  refine s_astore_n (lv' := [(3, .ref b2), (0, .ref b0), (1, .int a0), (2, .int a1)]) (pc := 7) dX11_hangs_7 (by decide) rfl ?_
  refine s_aload_n (pc := 8) 0 dX11_hangs_8 rfl ?_
  refine s_iload_n (pc := 9) 2 dX11_hangs_9 rfl ?_
  refine x_callV (M := MX11_hangs) (L := [(11, b0, f0, s0), (7, (b0 + 8), f1, s1), (0, b2, f2, s2)]) (h := h) (j := 2) (As := [.int a0]) (st := []) (A := fun (x : Bool) => some (.int (b2i x))) (Lc := [(0, b2, f2, s2)]) (Lr := fun (x : Bool) => [(0, b2, f2, s2)]) (L2 := fun (x : Bool) => [(11, b0, f0, s0), (7, (b0 + 8), f1, s1), (0, b2, f2, s2)]) cv_X11_212 (by decide) (pc := 10) dX11_hangs_10 ho rfl xc0_0 rfl rfl (Nat.le_of_ble_eq_true rfl) (xovs (L := [(11, b0, f0, s0), (7, (b0 + 8), f1, s1), (0, b2, f2, s2)]) (h := h) [(2, (0, b2, f2, s2))] ho ⟨rfl, trivial⟩).1 (fun x => (xovs (L := [(11, b0, f0, s0), (7, (b0 + 8), f1, s1), (0, b2, f2, s2)]) (h := h) [(2, (0, b2, f2, s2))] ho ⟨rfl, trivial⟩).1) (fun x hx => pX0_isChange_ok (h := xw [(11, b0, f0, s0), (7, (b0 + 8), f1, s1), (0, b2, f2, s2)] h) (f0 := f2) (xok_sub ho [2] rfl (by decide)) s2 a0 x hx) rfl (fun x1 _ => ?_)
  refine s_if_neB (tgt := 22) (pc := 13) dX11_hangs_13 (by decide) (fun _ => ?_) (fun _ => ?_)
  · refine s_iload_n (pc := 22) 3 dX11_hangs_22 rfl ?_
    refine s_case (c := a1 = 0) (fun c0 => ?_) (fun n6 => ?_)
    · refine s_tabIn (tgt := 48) (off := 25) (pc := 23) dX11_hangs_23 (by rw [c0]; decide) (by rw [c0]; decide) (by rw [c0]; rfl) (by decide) ?_
      refine s_aload_n (pc := 48) 1 dX11_hangs_48 rfl ?_
      refine s_aload_n (pc := 49) 0 dX11_hangs_49 rfl ?_
      refine xg_X11_232 2 ho rfl (pc := 50) dX11_hangs_50 rfl ?_
      refine s_iload_n (pc := 53) 2 dX11_hangs_53 rfl ?_
      refine xl_0_9 2 ho rfl (pc := 54) dX11_hangs_54 ?_
      refine x_callV (M := MX11_hangs) (L := [(11, b0, f0, s0), (7, (b0 + 8), f1, s1), (0, b2, f2, s2)]) (h := h) (j := 0) (As := [.int (s2.2.2.1 9 a0.toNatClampNeg)]) (st := []) (A := fun (x : Int32 × RS) => some (.int x.1)) (Lc := [(11, b0, f0, s0)]) (Lr := fun (x : Int32 × RS) => [(11, b0, f0, x.2)]) (L2 := fun (x : Int32 × RS) => [(11, b0, f0, x.2), (7, (b0 + 8), f1, s1), (0, b2, f2, s2)]) cv_X11_169 (by decide) (pc := 55) dX11_hangs_55 ho rfl xc0_11 rfl rfl (Nat.le_of_ble_eq_true rfl) (xovs (L := [(11, b0, f0, s0), (7, (b0 + 8), f1, s1), (0, b2, f2, s2)]) (h := h) [(0, (11, b0, f0, s0))] ho ⟨rfl, trivial⟩).1 (fun x => (xovs (L := [(11, b0, f0, s0), (7, (b0 + 8), f1, s1), (0, b2, f2, s2)]) (h := h) [(0, (11, b0, f0, x.2))] ho ⟨rfl, trivial⟩).1) (fun x hx => pX11_tell_ok (h := xw [(11, b0, f0, s0), (7, (b0 + 8), f1, s1), (0, b2, f2, s2)] h) (f0 := f0) (xok_sub ho [0] rfl (by decide)) s0 (s2.2.2.1 9 a0.toNatClampNeg) x hx) rfl (fun x2 _ => ?_)
      exact s_iret (pc := 58) dX11_hangs_58 rfl (fun _ _ q => q)
    · refine s_case (c := a1 = 1) (fun c0 => ?_) (fun n7 => ?_)
      · refine s_tabIn (tgt := 59) (off := 36) (pc := 23) dX11_hangs_23 (by rw [c0]; decide) (by rw [c0]; decide) (by rw [c0]; rfl) (by decide) ?_
        refine s_aload_n (pc := 59) 1 dX11_hangs_59 rfl ?_
        refine s_aload_n (pc := 60) 0 dX11_hangs_60 rfl ?_
        refine xg_X11_235 2 ho rfl (pc := 61) dX11_hangs_61 rfl ?_
        refine s_iload_n (pc := 64) 2 dX11_hangs_64 rfl ?_
        refine xl_0_10 2 ho rfl (pc := 65) dX11_hangs_65 ?_
        refine x_callV (M := MX11_hangs) (L := [(11, b0, f0, s0), (7, (b0 + 8), f1, s1), (0, b2, f2, s2)]) (h := h) (j := 0) (As := [.int (s2.2.2.1 10 a0.toNatClampNeg)]) (st := []) (A := fun (x : Int32 × RS) => some (.int x.1)) (Lc := [(11, b0, f0, s0)]) (Lr := fun (x : Int32 × RS) => [(11, b0, f0, x.2)]) (L2 := fun (x : Int32 × RS) => [(11, b0, f0, x.2), (7, (b0 + 8), f1, s1), (0, b2, f2, s2)]) cv_X11_169 (by decide) (pc := 66) dX11_hangs_66 ho rfl xc0_11 rfl rfl (Nat.le_of_ble_eq_true rfl) (xovs (L := [(11, b0, f0, s0), (7, (b0 + 8), f1, s1), (0, b2, f2, s2)]) (h := h) [(0, (11, b0, f0, s0))] ho ⟨rfl, trivial⟩).1 (fun x => (xovs (L := [(11, b0, f0, s0), (7, (b0 + 8), f1, s1), (0, b2, f2, s2)]) (h := h) [(0, (11, b0, f0, x.2))] ho ⟨rfl, trivial⟩).1) (fun x hx => pX11_tell_ok (h := xw [(11, b0, f0, s0), (7, (b0 + 8), f1, s1), (0, b2, f2, s2)] h) (f0 := f0) (xok_sub ho [0] rfl (by decide)) s0 (s2.2.2.1 10 a0.toNatClampNeg) x hx) rfl (fun x3 _ => ?_)
        exact s_iret (pc := 69) dX11_hangs_69 rfl (fun _ _ q => q)
      · refine s_case (c := a1 = 2) (fun c0 => ?_) (fun n8 => ?_)
        · refine s_tabIn (tgt := 70) (off := 47) (pc := 23) dX11_hangs_23 (by rw [c0]; decide) (by rw [c0]; decide) (by rw [c0]; rfl) (by decide) ?_
          refine s_aload_n (pc := 70) 1 dX11_hangs_70 rfl ?_
          refine s_aload_n (pc := 71) 0 dX11_hangs_71 rfl ?_
          refine xg_X11_238 2 ho rfl (pc := 72) dX11_hangs_72 rfl ?_
          refine s_iload_n (pc := 75) 2 dX11_hangs_75 rfl ?_
          refine xl_0_11 2 ho rfl (pc := 76) dX11_hangs_76 ?_
          refine x_callV (M := MX11_hangs) (L := [(11, b0, f0, s0), (7, (b0 + 8), f1, s1), (0, b2, f2, s2)]) (h := h) (j := 0) (As := [.int (s2.2.2.1 11 a0.toNatClampNeg)]) (st := []) (A := fun (x : Int32 × RS) => some (.int x.1)) (Lc := [(11, b0, f0, s0)]) (Lr := fun (x : Int32 × RS) => [(11, b0, f0, x.2)]) (L2 := fun (x : Int32 × RS) => [(11, b0, f0, x.2), (7, (b0 + 8), f1, s1), (0, b2, f2, s2)]) cv_X11_169 (by decide) (pc := 77) dX11_hangs_77 ho rfl xc0_11 rfl rfl (Nat.le_of_ble_eq_true rfl) (xovs (L := [(11, b0, f0, s0), (7, (b0 + 8), f1, s1), (0, b2, f2, s2)]) (h := h) [(0, (11, b0, f0, s0))] ho ⟨rfl, trivial⟩).1 (fun x => (xovs (L := [(11, b0, f0, s0), (7, (b0 + 8), f1, s1), (0, b2, f2, s2)]) (h := h) [(0, (11, b0, f0, x.2))] ho ⟨rfl, trivial⟩).1) (fun x hx => pX11_tell_ok (h := xw [(11, b0, f0, s0), (7, (b0 + 8), f1, s1), (0, b2, f2, s2)] h) (f0 := f0) (xok_sub ho [0] rfl (by decide)) s0 (s2.2.2.1 11 a0.toNatClampNeg) x hx) rfl (fun x4 _ => ?_)
          exact s_iret (pc := 80) dX11_hangs_80 rfl (fun _ _ q => q)
        · refine s_tabOut (tgt := 81) (pc := 23) dX11_hangs_23 (sw_out (fun i h1 h2 => by
            have hi : i = 0 ∨ i = 1 ∨ i = 2 := by omega
            rcases hi with rfl | rfl | rfl
            · exact fun q => n6 (q.trans (by decide))
            · exact fun q => n7 (q.trans (by decide))
            · exact fun q => n8 (q.trans (by decide)))) (by decide) ?_
          refine s_aload_n (pc := 81) 1 dX11_hangs_81 rfl ?_
          refine s_iconst (v := 5) (pc := 82) dX11_hangs_82 (by decide) ?_
          refine x_callV (M := MX11_hangs) (L := [(11, b0, f0, s0), (7, (b0 + 8), f1, s1), (0, b2, f2, s2)]) (h := h) (j := 0) (As := [.int 5]) (st := []) (A := fun (x : Int32 × RS) => some (.int x.1)) (Lc := [(11, b0, f0, s0)]) (Lr := fun (x : Int32 × RS) => [(11, b0, f0, x.2)]) (L2 := fun (x : Int32 × RS) => [(11, b0, f0, x.2), (7, (b0 + 8), f1, s1), (0, b2, f2, s2)]) cv_X11_113 (by decide) (pc := 83) dX11_hangs_83 ho rfl xc0_11 rfl rfl (Nat.le_of_ble_eq_true rfl) (xovs (L := [(11, b0, f0, s0), (7, (b0 + 8), f1, s1), (0, b2, f2, s2)]) (h := h) [(0, (11, b0, f0, s0))] ho ⟨rfl, trivial⟩).1 (fun x => (xovs (L := [(11, b0, f0, s0), (7, (b0 + 8), f1, s1), (0, b2, f2, s2)]) (h := h) [(0, (11, b0, f0, x.2))] ho ⟨rfl, trivial⟩).1) (fun x hx => pX11_refuse_ok (h := xw [(11, b0, f0, s0), (7, (b0 + 8), f1, s1), (0, b2, f2, s2)] h) (f0 := f0) (xok_sub ho [0] rfl (by decide)) s0 (5 : Int32) x hx) rfl (fun x5 _ => ?_)
          exact s_iret (pc := 86) dX11_hangs_86 rfl (fun _ _ q => q)
  · refine s_aload_n (pc := 16) 1 dX11_hangs_16 rfl ?_
    refine s_iconst (v := 2) (pc := 17) dX11_hangs_17 (by decide) ?_
    refine x_callV (M := MX11_hangs) (L := [(11, b0, f0, s0), (7, (b0 + 8), f1, s1), (0, b2, f2, s2)]) (h := h) (j := 0) (As := [.int 2]) (st := []) (A := fun (x : Int32 × RS) => some (.int x.1)) (Lc := [(11, b0, f0, s0)]) (Lr := fun (x : Int32 × RS) => [(11, b0, f0, x.2)]) (L2 := fun (x : Int32 × RS) => [(11, b0, f0, x.2), (7, (b0 + 8), f1, s1), (0, b2, f2, s2)]) cv_X11_113 (by decide) (pc := 18) dX11_hangs_18 ho rfl xc0_11 rfl rfl (Nat.le_of_ble_eq_true rfl) (xovs (L := [(11, b0, f0, s0), (7, (b0 + 8), f1, s1), (0, b2, f2, s2)]) (h := h) [(0, (11, b0, f0, s0))] ho ⟨rfl, trivial⟩).1 (fun x => (xovs (L := [(11, b0, f0, s0), (7, (b0 + 8), f1, s1), (0, b2, f2, s2)]) (h := h) [(0, (11, b0, f0, x.2))] ho ⟨rfl, trivial⟩).1) (fun x hx => pX11_refuse_ok (h := xw [(11, b0, f0, s0), (7, (b0 + 8), f1, s1), (0, b2, f2, s2)] h) (f0 := f0) (xok_sub ho [0] rfl (by decide)) s0 (2 : Int32) x hx) rfl (fun x9 _ => ?_)
    exact s_iret (pc := 21) dX11_hangs_21 rfl (fun _ _ q => q)
theorem pX11_hangs_ok (ho : xok [(11, b0), (7, (b0 + 8)), (0, b2)] h.2.1) (hq_1_0 : f1 0 = some b2) (s0 : RS) (s1 : RS) (s2 : RS) (a0 : Int32) (a1 : Int32) : ∀ x, pX11_hangs s0 s1 s2 a0 a1 = some x → aMet l 1 yX11_hangs cX11_hangs 4 (some .int) [.ref b0, .int a0, .int a1] (xw [(11, b0, f0, s0), (7, (b0 + 8), f1, s1), (0, b2, f2, s2)] h) (some (.int x.1)) (xw [(11, b0, f0, x.2), (7, (b0 + 8), f1, s1), (0, b2, f2, s2)] h) := fun x hx => a_meth (ini := false) (y := yX11_hangs) (by decide +kernel) (fun q => by cases q) (fun _ => Nat.le_of_ble_eq_true rfl) (pX11_hangs_w ho hq_1_0 s0 s1 s2 a0 a1) x hx _ _ ⟨rfl, rfl⟩
end
section
variable {l : Launch} {n0 S0 : Nat} {h : aH} {b0 b2 : Nat} {f0 f1 f2 : Nat → Option Nat}
abbrev MX11_holds : aM := (cX11_holds, RX11, 2, (some .int), false)
def X11_holds_j40 (k1 : Bool) (s0 : RS) (s1 : RS) (s2 : RS) : Option (Int32 × RS) :=
  (pX11_tell s0 (b2i k1)).bind fun x3 =>
  some (x3.1, x3.2)
theorem X11_holds_j40_ok (ho : xok [(11, b0), (7, (b0 + 8)), (0, b2)] h.2.1) (hq_1_0 : f1 0 = some b2) (k1 : Bool) (s0 : RS) (s1 : RS) (s2 : RS) : aS l 3 MX11_holds n0 S0 (oΦ (fun (x : Int32 × RS) => ((some (.int x.1)), xw [(11, b0, f0, x.2), (7, (b0 + 8), f1, s1), (0, b2, f2, s2)] h))) 40 [] [.int (b2i k1), .ref b0] (xw [(11, b0, f0, s0), (7, (b0 + 8), f1, s1), (0, b2, f2, s2)] h) (X11_holds_j40 k1 s0 s1 s2) := by
  unfold X11_holds_j40
  refine x_callV (M := MX11_holds) (L := [(11, b0, f0, s0), (7, (b0 + 8), f1, s1), (0, b2, f2, s2)]) (h := h) (j := 0) (As := [.int (b2i k1)]) (st := []) (A := fun (x : Int32 × RS) => some (.int x.1)) (Lc := [(11, b0, f0, s0)]) (Lr := fun (x : Int32 × RS) => [(11, b0, f0, x.2)]) (L2 := fun (x : Int32 × RS) => [(11, b0, f0, x.2), (7, (b0 + 8), f1, s1), (0, b2, f2, s2)]) cv_X11_169 (by decide) (pc := 40) dX11_holds_40 ho rfl xc0_11 rfl rfl (Nat.le_of_ble_eq_true rfl) (xovs (L := [(11, b0, f0, s0), (7, (b0 + 8), f1, s1), (0, b2, f2, s2)]) (h := h) [(0, (11, b0, f0, s0))] ho ⟨rfl, trivial⟩).1 (fun x => (xovs (L := [(11, b0, f0, s0), (7, (b0 + 8), f1, s1), (0, b2, f2, s2)]) (h := h) [(0, (11, b0, f0, x.2))] ho ⟨rfl, trivial⟩).1) (fun x hx => pX11_tell_ok (h := xw [(11, b0, f0, s0), (7, (b0 + 8), f1, s1), (0, b2, f2, s2)] h) (f0 := f0) (xok_sub ho [0] rfl (by decide)) s0 (b2i k1) x hx) rfl (fun x3 _ => ?_)
  exact s_iret (pc := 43) dX11_holds_43 rfl (fun _ _ q => q)
def pX11_holds (s0 : RS) (s1 : RS) (s2 : RS) (a0 : Int32) : Option (Int32 × RS) :=
  (pX0_isSet s2 a0).bind fun x1 =>
  if x1 = true then
    (pX0_isClosed s2 a0).bind fun x2 =>
    if x2 = true then
      X11_holds_j40 true s0 s1 s2
    else
      X11_holds_j40 false s0 s1 s2
  else
    (pX11_refuse s0 (2 : Int32)).bind fun x4 =>
    some (x4.1, x4.2)
theorem pX11_holds_w (ho : xok [(11, b0), (7, (b0 + 8)), (0, b2)] h.2.1) (hq_1_0 : f1 0 = some b2) (s0 : RS) (s1 : RS) (s2 : RS) (a0 : Int32) : aS l 3 MX11_holds n0 S0 (oΦ (fun (x : Int32 × RS) => ((some (.int x.1)), xw [(11, b0, f0, x.2), (7, (b0 + 8), f1, s1), (0, b2, f2, s2)] h))) 0 [(0, .ref b0), (1, .int a0)] [] (xw [(11, b0, f0, s0), (7, (b0 + 8), f1, s1), (0, b2, f2, s2)] h) (pX11_holds s0 s1 s2 a0) := by
  unfold pX11_holds
  refine s_aload_n (pc := 0) 0 dX11_holds_0 rfl ?_
  refine xg_X11_25 0 ho rfl (pc := 1) dX11_holds_1 rfl ?_
  refine xg_X11_174 1 ho rfl (pc := 4) dX11_holds_4 rfl hq_1_0 ?_
  refine s_iload_n (pc := 7) 1 dX11_holds_7 rfl ?_
  refine x_callV (M := MX11_holds) (L := [(11, b0, f0, s0), (7, (b0 + 8), f1, s1), (0, b2, f2, s2)]) (h := h) (j := 2) (As := [.int a0]) (st := []) (A := fun (x : Bool) => some (.int (b2i x))) (Lc := [(0, b2, f2, s2)]) (Lr := fun (x : Bool) => [(0, b2, f2, s2)]) (L2 := fun (x : Bool) => [(11, b0, f0, s0), (7, (b0 + 8), f1, s1), (0, b2, f2, s2)]) cv_X11_241 (by decide) (pc := 8) dX11_holds_8 ho rfl xc0_0 rfl rfl (Nat.le_of_ble_eq_true rfl) (xovs (L := [(11, b0, f0, s0), (7, (b0 + 8), f1, s1), (0, b2, f2, s2)]) (h := h) [(2, (0, b2, f2, s2))] ho ⟨rfl, trivial⟩).1 (fun x => (xovs (L := [(11, b0, f0, s0), (7, (b0 + 8), f1, s1), (0, b2, f2, s2)]) (h := h) [(2, (0, b2, f2, s2))] ho ⟨rfl, trivial⟩).1) (fun x hx => pX0_isSet_ok (h := xw [(11, b0, f0, s0), (7, (b0 + 8), f1, s1), (0, b2, f2, s2)] h) (f0 := f2) (xok_sub ho [2] rfl (by decide)) s2 a0 x hx) rfl (fun x1 _ => ?_)
  refine s_if_neB (tgt := 20) (pc := 11) dX11_holds_11 (by decide) (fun _ => ?_) (fun _ => ?_)
  · refine s_aload_n (pc := 20) 0 dX11_holds_20 rfl ?_
    refine s_aload_n (pc := 21) 0 dX11_holds_21 rfl ?_
    refine xg_X11_25 0 ho rfl (pc := 22) dX11_holds_22 rfl ?_
    refine xg_X11_174 1 ho rfl (pc := 25) dX11_holds_25 rfl hq_1_0 ?_
    refine s_iload_n (pc := 28) 1 dX11_holds_28 rfl ?_
    refine x_callV (M := MX11_holds) (L := [(11, b0, f0, s0), (7, (b0 + 8), f1, s1), (0, b2, f2, s2)]) (h := h) (j := 2) (As := [.int a0]) (st := [.ref b0]) (A := fun (x : Bool) => some (.int (b2i x))) (Lc := [(0, b2, f2, s2)]) (Lr := fun (x : Bool) => [(0, b2, f2, s2)]) (L2 := fun (x : Bool) => [(11, b0, f0, s0), (7, (b0 + 8), f1, s1), (0, b2, f2, s2)]) cv_X11_244 (by decide) (pc := 29) dX11_holds_29 ho rfl xc0_0 rfl rfl (Nat.le_of_ble_eq_true rfl) (xovs (L := [(11, b0, f0, s0), (7, (b0 + 8), f1, s1), (0, b2, f2, s2)]) (h := h) [(2, (0, b2, f2, s2))] ho ⟨rfl, trivial⟩).1 (fun x => (xovs (L := [(11, b0, f0, s0), (7, (b0 + 8), f1, s1), (0, b2, f2, s2)]) (h := h) [(2, (0, b2, f2, s2))] ho ⟨rfl, trivial⟩).1) (fun x hx => pX0_isClosed_ok (h := xw [(11, b0, f0, s0), (7, (b0 + 8), f1, s1), (0, b2, f2, s2)] h) (f0 := f2) (xok_sub ho [2] rfl (by decide)) s2 a0 x hx) rfl (fun x2 _ => ?_)
    refine s_if_eqB (tgt := 39) (pc := 32) dX11_holds_32 (by decide) (fun _ => ?_) (fun _ => ?_)
    · refine s_iconst (v := 1) (pc := 35) dX11_holds_35 (by decide) ?_
      refine s_goto (tgt := 40) (pc := 36) dX11_holds_36 (by decide) ?_
      refine s_sub [] rfl ?_
      exact X11_holds_j40_ok ho hq_1_0 true s0 s1 s2
    · refine s_iconst (v := 0) (pc := 39) dX11_holds_39 (by decide) ?_
      refine s_sub [] rfl ?_
      exact X11_holds_j40_ok ho hq_1_0 false s0 s1 s2
  · refine s_aload_n (pc := 14) 0 dX11_holds_14 rfl ?_
    refine s_iconst (v := 2) (pc := 15) dX11_holds_15 (by decide) ?_
    refine x_callV (M := MX11_holds) (L := [(11, b0, f0, s0), (7, (b0 + 8), f1, s1), (0, b2, f2, s2)]) (h := h) (j := 0) (As := [.int 2]) (st := []) (A := fun (x : Int32 × RS) => some (.int x.1)) (Lc := [(11, b0, f0, s0)]) (Lr := fun (x : Int32 × RS) => [(11, b0, f0, x.2)]) (L2 := fun (x : Int32 × RS) => [(11, b0, f0, x.2), (7, (b0 + 8), f1, s1), (0, b2, f2, s2)]) cv_X11_113 (by decide) (pc := 16) dX11_holds_16 ho rfl xc0_11 rfl rfl (Nat.le_of_ble_eq_true rfl) (xovs (L := [(11, b0, f0, s0), (7, (b0 + 8), f1, s1), (0, b2, f2, s2)]) (h := h) [(0, (11, b0, f0, s0))] ho ⟨rfl, trivial⟩).1 (fun x => (xovs (L := [(11, b0, f0, s0), (7, (b0 + 8), f1, s1), (0, b2, f2, s2)]) (h := h) [(0, (11, b0, f0, x.2))] ho ⟨rfl, trivial⟩).1) (fun x hx => pX11_refuse_ok (h := xw [(11, b0, f0, s0), (7, (b0 + 8), f1, s1), (0, b2, f2, s2)] h) (f0 := f0) (xok_sub ho [0] rfl (by decide)) s0 (2 : Int32) x hx) rfl (fun x4 _ => ?_)
    exact s_iret (pc := 19) dX11_holds_19 rfl (fun _ _ q => q)
theorem pX11_holds_ok (ho : xok [(11, b0), (7, (b0 + 8)), (0, b2)] h.2.1) (hq_1_0 : f1 0 = some b2) (s0 : RS) (s1 : RS) (s2 : RS) (a0 : Int32) : ∀ x, pX11_holds s0 s1 s2 a0 = some x → aMet l 3 yX11_holds cX11_holds 2 (some .int) [.ref b0, .int a0] (xw [(11, b0, f0, s0), (7, (b0 + 8), f1, s1), (0, b2, f2, s2)] h) (some (.int x.1)) (xw [(11, b0, f0, x.2), (7, (b0 + 8), f1, s1), (0, b2, f2, s2)] h) := fun x hx => a_meth (ini := false) (y := yX11_holds) (by decide +kernel) (fun q => by cases q) (fun _ => Nat.le_of_ble_eq_true rfl) (pX11_holds_w ho hq_1_0 s0 s1 s2 a0) x hx _ _ ⟨rfl, rfl⟩
end
section
variable {l : Launch} {n0 S0 : Nat} {h : aH} {b0 b2 : Nat} {f0 f1 f2 : Nat → Option Nat}
abbrev MX11_lacks : aM := (cX11_lacks, RX11, 2, (some .int), false)
def pX11_lacks (s0 : RS) (s1 : RS) (s2 : RS) (a0 : Int32) : Option (Int32 × RS) :=
  (pX0_isSet s2 a0).bind fun x1 =>
  if x1 = true then
    (pX0_missingFrom s2 a0).bind fun x2 =>
    (pX11_tell s0 x2).bind fun x3 =>
    some (x3.1, x3.2)
  else
    (pX11_refuse s0 (2 : Int32)).bind fun x4 =>
    some (x4.1, x4.2)
theorem pX11_lacks_w (ho : xok [(11, b0), (7, (b0 + 8)), (0, b2)] h.2.1) (hq_1_0 : f1 0 = some b2) (s0 : RS) (s1 : RS) (s2 : RS) (a0 : Int32) : aS l 2 MX11_lacks n0 S0 (oΦ (fun (x : Int32 × RS) => ((some (.int x.1)), xw [(11, b0, f0, x.2), (7, (b0 + 8), f1, s1), (0, b2, f2, s2)] h))) 0 [(0, .ref b0), (1, .int a0)] [] (xw [(11, b0, f0, s0), (7, (b0 + 8), f1, s1), (0, b2, f2, s2)] h) (pX11_lacks s0 s1 s2 a0) := by
  unfold pX11_lacks
  refine s_aload_n (pc := 0) 0 dX11_lacks_0 rfl ?_
  refine xg_X11_25 0 ho rfl (pc := 1) dX11_lacks_1 rfl ?_
  refine xg_X11_174 1 ho rfl (pc := 4) dX11_lacks_4 rfl hq_1_0 ?_
  refine s_iload_n (pc := 7) 1 dX11_lacks_7 rfl ?_
  refine x_callV (M := MX11_lacks) (L := [(11, b0, f0, s0), (7, (b0 + 8), f1, s1), (0, b2, f2, s2)]) (h := h) (j := 2) (As := [.int a0]) (st := []) (A := fun (x : Bool) => some (.int (b2i x))) (Lc := [(0, b2, f2, s2)]) (Lr := fun (x : Bool) => [(0, b2, f2, s2)]) (L2 := fun (x : Bool) => [(11, b0, f0, s0), (7, (b0 + 8), f1, s1), (0, b2, f2, s2)]) cv_X11_241 (by decide) (pc := 8) dX11_lacks_8 ho rfl xc0_0 rfl rfl (Nat.le_of_ble_eq_true rfl) (xovs (L := [(11, b0, f0, s0), (7, (b0 + 8), f1, s1), (0, b2, f2, s2)]) (h := h) [(2, (0, b2, f2, s2))] ho ⟨rfl, trivial⟩).1 (fun x => (xovs (L := [(11, b0, f0, s0), (7, (b0 + 8), f1, s1), (0, b2, f2, s2)]) (h := h) [(2, (0, b2, f2, s2))] ho ⟨rfl, trivial⟩).1) (fun x hx => pX0_isSet_ok (h := xw [(11, b0, f0, s0), (7, (b0 + 8), f1, s1), (0, b2, f2, s2)] h) (f0 := f2) (xok_sub ho [2] rfl (by decide)) s2 a0 x hx) rfl (fun x1 _ => ?_)
  refine s_if_neB (tgt := 20) (pc := 11) dX11_lacks_11 (by decide) (fun _ => ?_) (fun _ => ?_)
  · refine s_aload_n (pc := 20) 0 dX11_lacks_20 rfl ?_
    refine s_aload_n (pc := 21) 0 dX11_lacks_21 rfl ?_
    refine xg_X11_25 0 ho rfl (pc := 22) dX11_lacks_22 rfl ?_
    refine xg_X11_174 1 ho rfl (pc := 25) dX11_lacks_25 rfl hq_1_0 ?_
    refine s_iload_n (pc := 28) 1 dX11_lacks_28 rfl ?_
    refine x_callV (M := MX11_lacks) (L := [(11, b0, f0, s0), (7, (b0 + 8), f1, s1), (0, b2, f2, s2)]) (h := h) (j := 2) (As := [.int a0]) (st := [.ref b0]) (A := fun (x : Int32) => some (.int x)) (Lc := [(0, b2, f2, s2)]) (Lr := fun (x : Int32) => [(0, b2, f2, s2)]) (L2 := fun (x : Int32) => [(11, b0, f0, s0), (7, (b0 + 8), f1, s1), (0, b2, f2, s2)]) cv_X11_247 (by decide) (pc := 29) dX11_lacks_29 ho rfl xc0_0 rfl rfl (Nat.le_of_ble_eq_true rfl) (xovs (L := [(11, b0, f0, s0), (7, (b0 + 8), f1, s1), (0, b2, f2, s2)]) (h := h) [(2, (0, b2, f2, s2))] ho ⟨rfl, trivial⟩).1 (fun x => (xovs (L := [(11, b0, f0, s0), (7, (b0 + 8), f1, s1), (0, b2, f2, s2)]) (h := h) [(2, (0, b2, f2, s2))] ho ⟨rfl, trivial⟩).1) (fun x hx => pX0_missingFrom_ok (h := xw [(11, b0, f0, s0), (7, (b0 + 8), f1, s1), (0, b2, f2, s2)] h) (f0 := f2) (xok_sub ho [2] rfl (by decide)) s2 a0 x hx) rfl (fun x2 _ => ?_)
    refine x_callV (M := MX11_lacks) (L := [(11, b0, f0, s0), (7, (b0 + 8), f1, s1), (0, b2, f2, s2)]) (h := h) (j := 0) (As := [.int x2]) (st := []) (A := fun (x : Int32 × RS) => some (.int x.1)) (Lc := [(11, b0, f0, s0)]) (Lr := fun (x : Int32 × RS) => [(11, b0, f0, x.2)]) (L2 := fun (x : Int32 × RS) => [(11, b0, f0, x.2), (7, (b0 + 8), f1, s1), (0, b2, f2, s2)]) cv_X11_169 (by decide) (pc := 32) dX11_lacks_32 ho rfl xc0_11 rfl rfl (Nat.le_of_ble_eq_true rfl) (xovs (L := [(11, b0, f0, s0), (7, (b0 + 8), f1, s1), (0, b2, f2, s2)]) (h := h) [(0, (11, b0, f0, s0))] ho ⟨rfl, trivial⟩).1 (fun x => (xovs (L := [(11, b0, f0, s0), (7, (b0 + 8), f1, s1), (0, b2, f2, s2)]) (h := h) [(0, (11, b0, f0, x.2))] ho ⟨rfl, trivial⟩).1) (fun x hx => pX11_tell_ok (h := xw [(11, b0, f0, s0), (7, (b0 + 8), f1, s1), (0, b2, f2, s2)] h) (f0 := f0) (xok_sub ho [0] rfl (by decide)) s0 x2 x hx) rfl (fun x3 _ => ?_)
    exact s_iret (pc := 35) dX11_lacks_35 rfl (fun _ _ q => q)
  · refine s_aload_n (pc := 14) 0 dX11_lacks_14 rfl ?_
    refine s_iconst (v := 2) (pc := 15) dX11_lacks_15 (by decide) ?_
    refine x_callV (M := MX11_lacks) (L := [(11, b0, f0, s0), (7, (b0 + 8), f1, s1), (0, b2, f2, s2)]) (h := h) (j := 0) (As := [.int 2]) (st := []) (A := fun (x : Int32 × RS) => some (.int x.1)) (Lc := [(11, b0, f0, s0)]) (Lr := fun (x : Int32 × RS) => [(11, b0, f0, x.2)]) (L2 := fun (x : Int32 × RS) => [(11, b0, f0, x.2), (7, (b0 + 8), f1, s1), (0, b2, f2, s2)]) cv_X11_113 (by decide) (pc := 16) dX11_lacks_16 ho rfl xc0_11 rfl rfl (Nat.le_of_ble_eq_true rfl) (xovs (L := [(11, b0, f0, s0), (7, (b0 + 8), f1, s1), (0, b2, f2, s2)]) (h := h) [(0, (11, b0, f0, s0))] ho ⟨rfl, trivial⟩).1 (fun x => (xovs (L := [(11, b0, f0, s0), (7, (b0 + 8), f1, s1), (0, b2, f2, s2)]) (h := h) [(0, (11, b0, f0, x.2))] ho ⟨rfl, trivial⟩).1) (fun x hx => pX11_refuse_ok (h := xw [(11, b0, f0, s0), (7, (b0 + 8), f1, s1), (0, b2, f2, s2)] h) (f0 := f0) (xok_sub ho [0] rfl (by decide)) s0 (2 : Int32) x hx) rfl (fun x4 _ => ?_)
    exact s_iret (pc := 19) dX11_lacks_19 rfl (fun _ _ q => q)
theorem pX11_lacks_ok (ho : xok [(11, b0), (7, (b0 + 8)), (0, b2)] h.2.1) (hq_1_0 : f1 0 = some b2) (s0 : RS) (s1 : RS) (s2 : RS) (a0 : Int32) : ∀ x, pX11_lacks s0 s1 s2 a0 = some x → aMet l 2 yX11_lacks cX11_lacks 2 (some .int) [.ref b0, .int a0] (xw [(11, b0, f0, s0), (7, (b0 + 8), f1, s1), (0, b2, f2, s2)] h) (some (.int x.1)) (xw [(11, b0, f0, x.2), (7, (b0 + 8), f1, s1), (0, b2, f2, s2)] h) := fun x hx => a_meth (ini := false) (y := yX11_lacks) (by decide +kernel) (fun q => by cases q) (fun _ => Nat.le_of_ble_eq_true rfl) (pX11_lacks_w ho hq_1_0 s0 s1 s2 a0) x hx _ _ ⟨rfl, rfl⟩
end
section
variable {l : Launch} {n0 S0 : Nat} {h : aH} {b0 b2 : Nat} {f0 f1 f2 : Nat → Option Nat}
abbrev MX11_out : aM := (cX11_out, RX11, 3, (some .int), false)
def X11_out_j28 (s0 : RS) (s1 : RS) (s2 : RS) : Option (Int32 × RS) :=
  (pX11_refuse s0 (2 : Int32)).bind fun x2 =>
  some (x2.1, x2.2)
theorem X11_out_j28_ok (ho : xok [(11, b0), (7, (b0 + 8)), (0, b2)] h.2.1) (hq_1_0 : f1 0 = some b2) (s0 : RS) (s1 : RS) (s2 : RS) : aS l 2 MX11_out n0 S0 (oΦ (fun (x : Int32 × RS) => ((some (.int x.1)), xw [(11, b0, f0, x.2), (7, (b0 + 8), f1, s1), (0, b2, f2, s2)] h))) 28 [(0, .ref b0)] [] (xw [(11, b0, f0, s0), (7, (b0 + 8), f1, s1), (0, b2, f2, s2)] h) (X11_out_j28 s0 s1 s2) := by
  unfold X11_out_j28
  refine s_aload_n (pc := 28) 0 dX11_out_28 rfl ?_
  refine s_iconst (v := 2) (pc := 29) dX11_out_29 (by decide) ?_
  refine x_callV (M := MX11_out) (L := [(11, b0, f0, s0), (7, (b0 + 8), f1, s1), (0, b2, f2, s2)]) (h := h) (j := 0) (As := [.int 2]) (st := []) (A := fun (x : Int32 × RS) => some (.int x.1)) (Lc := [(11, b0, f0, s0)]) (Lr := fun (x : Int32 × RS) => [(11, b0, f0, x.2)]) (L2 := fun (x : Int32 × RS) => [(11, b0, f0, x.2), (7, (b0 + 8), f1, s1), (0, b2, f2, s2)]) cv_X11_113 (by decide) (pc := 30) dX11_out_30 ho rfl xc0_11 rfl rfl (Nat.le_of_ble_eq_true rfl) (xovs (L := [(11, b0, f0, s0), (7, (b0 + 8), f1, s1), (0, b2, f2, s2)]) (h := h) [(0, (11, b0, f0, s0))] ho ⟨rfl, trivial⟩).1 (fun x => (xovs (L := [(11, b0, f0, s0), (7, (b0 + 8), f1, s1), (0, b2, f2, s2)]) (h := h) [(0, (11, b0, f0, x.2))] ho ⟨rfl, trivial⟩).1) (fun x hx => pX11_refuse_ok (h := xw [(11, b0, f0, s0), (7, (b0 + 8), f1, s1), (0, b2, f2, s2)] h) (f0 := f0) (xok_sub ho [0] rfl (by decide)) s0 (2 : Int32) x hx) rfl (fun x2 _ => ?_)
  exact s_iret (pc := 33) dX11_out_33 rfl (fun _ _ q => q)
def pX11_out (s0 : RS) (s1 : RS) (s2 : RS) (a0 : Int32) (a1 : Int32) : Option (Int32 × RS) :=
  (pX0_isSet s2 a0).bind fun x1 =>
  if x1 = true then
    (pX0_isChange s2 a1).bind fun x3 =>
    if x3 = true then
      (pX0_without s2 a0 a1).bind fun x4 =>
      (pX11_tell s0 x4).bind fun x5 =>
      some (x5.1, x5.2)
    else
      X11_out_j28 s0 s1 s2
  else
    X11_out_j28 s0 s1 s2
theorem pX11_out_w (ho : xok [(11, b0), (7, (b0 + 8)), (0, b2)] h.2.1) (hq_1_0 : f1 0 = some b2) (s0 : RS) (s1 : RS) (s2 : RS) (a0 : Int32) (a1 : Int32) : aS l 2 MX11_out n0 S0 (oΦ (fun (x : Int32 × RS) => ((some (.int x.1)), xw [(11, b0, f0, x.2), (7, (b0 + 8), f1, s1), (0, b2, f2, s2)] h))) 0 [(0, .ref b0), (1, .int a0), (2, .int a1)] [] (xw [(11, b0, f0, s0), (7, (b0 + 8), f1, s1), (0, b2, f2, s2)] h) (pX11_out s0 s1 s2 a0 a1) := by
  unfold pX11_out
  refine s_aload_n (pc := 0) 0 dX11_out_0 rfl ?_
  refine xg_X11_25 0 ho rfl (pc := 1) dX11_out_1 rfl ?_
  refine xg_X11_174 1 ho rfl (pc := 4) dX11_out_4 rfl hq_1_0 ?_
  refine s_iload_n (pc := 7) 1 dX11_out_7 rfl ?_
  refine x_callV (M := MX11_out) (L := [(11, b0, f0, s0), (7, (b0 + 8), f1, s1), (0, b2, f2, s2)]) (h := h) (j := 2) (As := [.int a0]) (st := []) (A := fun (x : Bool) => some (.int (b2i x))) (Lc := [(0, b2, f2, s2)]) (Lr := fun (x : Bool) => [(0, b2, f2, s2)]) (L2 := fun (x : Bool) => [(11, b0, f0, s0), (7, (b0 + 8), f1, s1), (0, b2, f2, s2)]) cv_X11_241 (by decide) (pc := 8) dX11_out_8 ho rfl xc0_0 rfl rfl (Nat.le_of_ble_eq_true rfl) (xovs (L := [(11, b0, f0, s0), (7, (b0 + 8), f1, s1), (0, b2, f2, s2)]) (h := h) [(2, (0, b2, f2, s2))] ho ⟨rfl, trivial⟩).1 (fun x => (xovs (L := [(11, b0, f0, s0), (7, (b0 + 8), f1, s1), (0, b2, f2, s2)]) (h := h) [(2, (0, b2, f2, s2))] ho ⟨rfl, trivial⟩).1) (fun x hx => pX0_isSet_ok (h := xw [(11, b0, f0, s0), (7, (b0 + 8), f1, s1), (0, b2, f2, s2)] h) (f0 := f2) (xok_sub ho [2] rfl (by decide)) s2 a0 x hx) rfl (fun x1 _ => ?_)
  refine s_if_eqB (tgt := 28) (pc := 11) dX11_out_11 (by decide) (fun _ => ?_) (fun _ => ?_)
  · refine s_aload_n (pc := 14) 0 dX11_out_14 rfl ?_
    refine xg_X11_25 0 ho rfl (pc := 15) dX11_out_15 rfl ?_
    refine xg_X11_174 1 ho rfl (pc := 18) dX11_out_18 rfl hq_1_0 ?_
    refine s_iload_n (pc := 21) 2 dX11_out_21 rfl ?_
    refine x_callV (M := MX11_out) (L := [(11, b0, f0, s0), (7, (b0 + 8), f1, s1), (0, b2, f2, s2)]) (h := h) (j := 2) (As := [.int a1]) (st := []) (A := fun (x : Bool) => some (.int (b2i x))) (Lc := [(0, b2, f2, s2)]) (Lr := fun (x : Bool) => [(0, b2, f2, s2)]) (L2 := fun (x : Bool) => [(11, b0, f0, s0), (7, (b0 + 8), f1, s1), (0, b2, f2, s2)]) cv_X11_212 (by decide) (pc := 22) dX11_out_22 ho rfl xc0_0 rfl rfl (Nat.le_of_ble_eq_true rfl) (xovs (L := [(11, b0, f0, s0), (7, (b0 + 8), f1, s1), (0, b2, f2, s2)]) (h := h) [(2, (0, b2, f2, s2))] ho ⟨rfl, trivial⟩).1 (fun x => (xovs (L := [(11, b0, f0, s0), (7, (b0 + 8), f1, s1), (0, b2, f2, s2)]) (h := h) [(2, (0, b2, f2, s2))] ho ⟨rfl, trivial⟩).1) (fun x hx => pX0_isChange_ok (h := xw [(11, b0, f0, s0), (7, (b0 + 8), f1, s1), (0, b2, f2, s2)] h) (f0 := f2) (xok_sub ho [2] rfl (by decide)) s2 a1 x hx) rfl (fun x3 _ => ?_)
    refine s_if_neB (tgt := 34) (pc := 25) dX11_out_25 (by decide) (fun _ => ?_) (fun _ => ?_)
    · refine s_aload_n (pc := 34) 0 dX11_out_34 rfl ?_
      refine s_aload_n (pc := 35) 0 dX11_out_35 rfl ?_
      refine xg_X11_25 0 ho rfl (pc := 36) dX11_out_36 rfl ?_
      refine xg_X11_174 1 ho rfl (pc := 39) dX11_out_39 rfl hq_1_0 ?_
      refine s_iload_n (pc := 42) 1 dX11_out_42 rfl ?_
      refine s_iload_n (pc := 43) 2 dX11_out_43 rfl ?_
      refine x_callV (M := MX11_out) (L := [(11, b0, f0, s0), (7, (b0 + 8), f1, s1), (0, b2, f2, s2)]) (h := h) (j := 2) (As := [.int a0, .int a1]) (st := [.ref b0]) (A := fun (x : Int32) => some (.int x)) (Lc := [(0, b2, f2, s2)]) (Lr := fun (x : Int32) => [(0, b2, f2, s2)]) (L2 := fun (x : Int32) => [(11, b0, f0, s0), (7, (b0 + 8), f1, s1), (0, b2, f2, s2)]) cv_X11_250 (by decide) (pc := 44) dX11_out_44 ho rfl xc0_0 rfl rfl (Nat.le_of_ble_eq_true rfl) (xovs (L := [(11, b0, f0, s0), (7, (b0 + 8), f1, s1), (0, b2, f2, s2)]) (h := h) [(2, (0, b2, f2, s2))] ho ⟨rfl, trivial⟩).1 (fun x => (xovs (L := [(11, b0, f0, s0), (7, (b0 + 8), f1, s1), (0, b2, f2, s2)]) (h := h) [(2, (0, b2, f2, s2))] ho ⟨rfl, trivial⟩).1) (fun x hx => pX0_without_ok (h := xw [(11, b0, f0, s0), (7, (b0 + 8), f1, s1), (0, b2, f2, s2)] h) (f0 := f2) (xok_sub ho [2] rfl (by decide)) s2 a0 a1 x hx) rfl (fun x4 _ => ?_)
      refine x_callV (M := MX11_out) (L := [(11, b0, f0, s0), (7, (b0 + 8), f1, s1), (0, b2, f2, s2)]) (h := h) (j := 0) (As := [.int x4]) (st := []) (A := fun (x : Int32 × RS) => some (.int x.1)) (Lc := [(11, b0, f0, s0)]) (Lr := fun (x : Int32 × RS) => [(11, b0, f0, x.2)]) (L2 := fun (x : Int32 × RS) => [(11, b0, f0, x.2), (7, (b0 + 8), f1, s1), (0, b2, f2, s2)]) cv_X11_169 (by decide) (pc := 47) dX11_out_47 ho rfl xc0_11 rfl rfl (Nat.le_of_ble_eq_true rfl) (xovs (L := [(11, b0, f0, s0), (7, (b0 + 8), f1, s1), (0, b2, f2, s2)]) (h := h) [(0, (11, b0, f0, s0))] ho ⟨rfl, trivial⟩).1 (fun x => (xovs (L := [(11, b0, f0, s0), (7, (b0 + 8), f1, s1), (0, b2, f2, s2)]) (h := h) [(0, (11, b0, f0, x.2))] ho ⟨rfl, trivial⟩).1) (fun x hx => pX11_tell_ok (h := xw [(11, b0, f0, s0), (7, (b0 + 8), f1, s1), (0, b2, f2, s2)] h) (f0 := f0) (xok_sub ho [0] rfl (by decide)) s0 x4 x hx) rfl (fun x5 _ => ?_)
      exact s_iret (pc := 50) dX11_out_50 rfl (fun _ _ q => q)
    · refine s_sub [0] rfl ?_
      exact X11_out_j28_ok ho hq_1_0 s0 s1 s2
  · refine s_sub [0] rfl ?_
    exact X11_out_j28_ok ho hq_1_0 s0 s1 s2
theorem pX11_out_ok (ho : xok [(11, b0), (7, (b0 + 8)), (0, b2)] h.2.1) (hq_1_0 : f1 0 = some b2) (s0 : RS) (s1 : RS) (s2 : RS) (a0 : Int32) (a1 : Int32) : ∀ x, pX11_out s0 s1 s2 a0 a1 = some x → aMet l 2 yX11_out cX11_out 3 (some .int) [.ref b0, .int a0, .int a1] (xw [(11, b0, f0, s0), (7, (b0 + 8), f1, s1), (0, b2, f2, s2)] h) (some (.int x.1)) (xw [(11, b0, f0, x.2), (7, (b0 + 8), f1, s1), (0, b2, f2, s2)] h) := fun x hx => a_meth (ini := false) (y := yX11_out) (by decide +kernel) (fun q => by cases q) (fun _ => Nat.le_of_ble_eq_true rfl) (pX11_out_w ho hq_1_0 s0 s1 s2 a0 a1) x hx _ _ ⟨rfl, rfl⟩
end
section
variable {l : Launch} {n0 S0 : Nat} {h : aH} {b0 b2 : Nat} {f0 f1 f2 : Nat → Option Nat}
abbrev MX11_pick : aM := (cX11_pick, RX11, 3, (some .int), false)
def X11_pick_j28 (s0 : RS) (s1 : RS) (s2 : RS) : Option (Int32 × RS) :=
  (pX11_refuse s0 (2 : Int32)).bind fun x2 =>
  some (x2.1, x2.2)
theorem X11_pick_j28_ok (ho : xok [(11, b0), (7, (b0 + 8)), (0, b2)] h.2.1) (hq_1_0 : f1 0 = some b2) (s0 : RS) (s1 : RS) (s2 : RS) : aS l 2 MX11_pick n0 S0 (oΦ (fun (x : Int32 × RS) => ((some (.int x.1)), xw [(11, b0, f0, x.2), (7, (b0 + 8), f1, s1), (0, b2, f2, s2)] h))) 28 [(0, .ref b0)] [] (xw [(11, b0, f0, s0), (7, (b0 + 8), f1, s1), (0, b2, f2, s2)] h) (X11_pick_j28 s0 s1 s2) := by
  unfold X11_pick_j28
  refine s_aload_n (pc := 28) 0 dX11_pick_28 rfl ?_
  refine s_iconst (v := 2) (pc := 29) dX11_pick_29 (by decide) ?_
  refine x_callV (M := MX11_pick) (L := [(11, b0, f0, s0), (7, (b0 + 8), f1, s1), (0, b2, f2, s2)]) (h := h) (j := 0) (As := [.int 2]) (st := []) (A := fun (x : Int32 × RS) => some (.int x.1)) (Lc := [(11, b0, f0, s0)]) (Lr := fun (x : Int32 × RS) => [(11, b0, f0, x.2)]) (L2 := fun (x : Int32 × RS) => [(11, b0, f0, x.2), (7, (b0 + 8), f1, s1), (0, b2, f2, s2)]) cv_X11_113 (by decide) (pc := 30) dX11_pick_30 ho rfl xc0_11 rfl rfl (Nat.le_of_ble_eq_true rfl) (xovs (L := [(11, b0, f0, s0), (7, (b0 + 8), f1, s1), (0, b2, f2, s2)]) (h := h) [(0, (11, b0, f0, s0))] ho ⟨rfl, trivial⟩).1 (fun x => (xovs (L := [(11, b0, f0, s0), (7, (b0 + 8), f1, s1), (0, b2, f2, s2)]) (h := h) [(0, (11, b0, f0, x.2))] ho ⟨rfl, trivial⟩).1) (fun x hx => pX11_refuse_ok (h := xw [(11, b0, f0, s0), (7, (b0 + 8), f1, s1), (0, b2, f2, s2)] h) (f0 := f0) (xok_sub ho [0] rfl (by decide)) s0 (2 : Int32) x hx) rfl (fun x2 _ => ?_)
  exact s_iret (pc := 33) dX11_pick_33 rfl (fun _ _ q => q)
def pX11_pick (s0 : RS) (s1 : RS) (s2 : RS) (a0 : Int32) (a1 : Int32) : Option (Int32 × RS) :=
  (pX0_isSet s2 a0).bind fun x1 =>
  if x1 = true then
    (pX0_isChange s2 a1).bind fun x3 =>
    if x3 = true then
      (pX0_including s2 a0 a1).bind fun x4 =>
      (pX11_tell s0 x4).bind fun x5 =>
      some (x5.1, x5.2)
    else
      X11_pick_j28 s0 s1 s2
  else
    X11_pick_j28 s0 s1 s2
theorem pX11_pick_w (ho : xok [(11, b0), (7, (b0 + 8)), (0, b2)] h.2.1) (hq_1_0 : f1 0 = some b2) (s0 : RS) (s1 : RS) (s2 : RS) (a0 : Int32) (a1 : Int32) : aS l 2 MX11_pick n0 S0 (oΦ (fun (x : Int32 × RS) => ((some (.int x.1)), xw [(11, b0, f0, x.2), (7, (b0 + 8), f1, s1), (0, b2, f2, s2)] h))) 0 [(0, .ref b0), (1, .int a0), (2, .int a1)] [] (xw [(11, b0, f0, s0), (7, (b0 + 8), f1, s1), (0, b2, f2, s2)] h) (pX11_pick s0 s1 s2 a0 a1) := by
  unfold pX11_pick
  refine s_aload_n (pc := 0) 0 dX11_pick_0 rfl ?_
  refine xg_X11_25 0 ho rfl (pc := 1) dX11_pick_1 rfl ?_
  refine xg_X11_174 1 ho rfl (pc := 4) dX11_pick_4 rfl hq_1_0 ?_
  refine s_iload_n (pc := 7) 1 dX11_pick_7 rfl ?_
  refine x_callV (M := MX11_pick) (L := [(11, b0, f0, s0), (7, (b0 + 8), f1, s1), (0, b2, f2, s2)]) (h := h) (j := 2) (As := [.int a0]) (st := []) (A := fun (x : Bool) => some (.int (b2i x))) (Lc := [(0, b2, f2, s2)]) (Lr := fun (x : Bool) => [(0, b2, f2, s2)]) (L2 := fun (x : Bool) => [(11, b0, f0, s0), (7, (b0 + 8), f1, s1), (0, b2, f2, s2)]) cv_X11_241 (by decide) (pc := 8) dX11_pick_8 ho rfl xc0_0 rfl rfl (Nat.le_of_ble_eq_true rfl) (xovs (L := [(11, b0, f0, s0), (7, (b0 + 8), f1, s1), (0, b2, f2, s2)]) (h := h) [(2, (0, b2, f2, s2))] ho ⟨rfl, trivial⟩).1 (fun x => (xovs (L := [(11, b0, f0, s0), (7, (b0 + 8), f1, s1), (0, b2, f2, s2)]) (h := h) [(2, (0, b2, f2, s2))] ho ⟨rfl, trivial⟩).1) (fun x hx => pX0_isSet_ok (h := xw [(11, b0, f0, s0), (7, (b0 + 8), f1, s1), (0, b2, f2, s2)] h) (f0 := f2) (xok_sub ho [2] rfl (by decide)) s2 a0 x hx) rfl (fun x1 _ => ?_)
  refine s_if_eqB (tgt := 28) (pc := 11) dX11_pick_11 (by decide) (fun _ => ?_) (fun _ => ?_)
  · refine s_aload_n (pc := 14) 0 dX11_pick_14 rfl ?_
    refine xg_X11_25 0 ho rfl (pc := 15) dX11_pick_15 rfl ?_
    refine xg_X11_174 1 ho rfl (pc := 18) dX11_pick_18 rfl hq_1_0 ?_
    refine s_iload_n (pc := 21) 2 dX11_pick_21 rfl ?_
    refine x_callV (M := MX11_pick) (L := [(11, b0, f0, s0), (7, (b0 + 8), f1, s1), (0, b2, f2, s2)]) (h := h) (j := 2) (As := [.int a1]) (st := []) (A := fun (x : Bool) => some (.int (b2i x))) (Lc := [(0, b2, f2, s2)]) (Lr := fun (x : Bool) => [(0, b2, f2, s2)]) (L2 := fun (x : Bool) => [(11, b0, f0, s0), (7, (b0 + 8), f1, s1), (0, b2, f2, s2)]) cv_X11_212 (by decide) (pc := 22) dX11_pick_22 ho rfl xc0_0 rfl rfl (Nat.le_of_ble_eq_true rfl) (xovs (L := [(11, b0, f0, s0), (7, (b0 + 8), f1, s1), (0, b2, f2, s2)]) (h := h) [(2, (0, b2, f2, s2))] ho ⟨rfl, trivial⟩).1 (fun x => (xovs (L := [(11, b0, f0, s0), (7, (b0 + 8), f1, s1), (0, b2, f2, s2)]) (h := h) [(2, (0, b2, f2, s2))] ho ⟨rfl, trivial⟩).1) (fun x hx => pX0_isChange_ok (h := xw [(11, b0, f0, s0), (7, (b0 + 8), f1, s1), (0, b2, f2, s2)] h) (f0 := f2) (xok_sub ho [2] rfl (by decide)) s2 a1 x hx) rfl (fun x3 _ => ?_)
    refine s_if_neB (tgt := 34) (pc := 25) dX11_pick_25 (by decide) (fun _ => ?_) (fun _ => ?_)
    · refine s_aload_n (pc := 34) 0 dX11_pick_34 rfl ?_
      refine s_aload_n (pc := 35) 0 dX11_pick_35 rfl ?_
      refine xg_X11_25 0 ho rfl (pc := 36) dX11_pick_36 rfl ?_
      refine xg_X11_174 1 ho rfl (pc := 39) dX11_pick_39 rfl hq_1_0 ?_
      refine s_iload_n (pc := 42) 1 dX11_pick_42 rfl ?_
      refine s_iload_n (pc := 43) 2 dX11_pick_43 rfl ?_
      refine x_callV (M := MX11_pick) (L := [(11, b0, f0, s0), (7, (b0 + 8), f1, s1), (0, b2, f2, s2)]) (h := h) (j := 2) (As := [.int a0, .int a1]) (st := [.ref b0]) (A := fun (x : Int32) => some (.int x)) (Lc := [(0, b2, f2, s2)]) (Lr := fun (x : Int32) => [(0, b2, f2, s2)]) (L2 := fun (x : Int32) => [(11, b0, f0, s0), (7, (b0 + 8), f1, s1), (0, b2, f2, s2)]) cv_X11_253 (by decide) (pc := 44) dX11_pick_44 ho rfl xc0_0 rfl rfl (Nat.le_of_ble_eq_true rfl) (xovs (L := [(11, b0, f0, s0), (7, (b0 + 8), f1, s1), (0, b2, f2, s2)]) (h := h) [(2, (0, b2, f2, s2))] ho ⟨rfl, trivial⟩).1 (fun x => (xovs (L := [(11, b0, f0, s0), (7, (b0 + 8), f1, s1), (0, b2, f2, s2)]) (h := h) [(2, (0, b2, f2, s2))] ho ⟨rfl, trivial⟩).1) (fun x hx => pX0_including_ok (h := xw [(11, b0, f0, s0), (7, (b0 + 8), f1, s1), (0, b2, f2, s2)] h) (f0 := f2) (xok_sub ho [2] rfl (by decide)) s2 a0 a1 x hx) rfl (fun x4 _ => ?_)
      refine x_callV (M := MX11_pick) (L := [(11, b0, f0, s0), (7, (b0 + 8), f1, s1), (0, b2, f2, s2)]) (h := h) (j := 0) (As := [.int x4]) (st := []) (A := fun (x : Int32 × RS) => some (.int x.1)) (Lc := [(11, b0, f0, s0)]) (Lr := fun (x : Int32 × RS) => [(11, b0, f0, x.2)]) (L2 := fun (x : Int32 × RS) => [(11, b0, f0, x.2), (7, (b0 + 8), f1, s1), (0, b2, f2, s2)]) cv_X11_169 (by decide) (pc := 47) dX11_pick_47 ho rfl xc0_11 rfl rfl (Nat.le_of_ble_eq_true rfl) (xovs (L := [(11, b0, f0, s0), (7, (b0 + 8), f1, s1), (0, b2, f2, s2)]) (h := h) [(0, (11, b0, f0, s0))] ho ⟨rfl, trivial⟩).1 (fun x => (xovs (L := [(11, b0, f0, s0), (7, (b0 + 8), f1, s1), (0, b2, f2, s2)]) (h := h) [(0, (11, b0, f0, x.2))] ho ⟨rfl, trivial⟩).1) (fun x hx => pX11_tell_ok (h := xw [(11, b0, f0, s0), (7, (b0 + 8), f1, s1), (0, b2, f2, s2)] h) (f0 := f0) (xok_sub ho [0] rfl (by decide)) s0 x4 x hx) rfl (fun x5 _ => ?_)
      exact s_iret (pc := 50) dX11_pick_50 rfl (fun _ _ q => q)
    · refine s_sub [0] rfl ?_
      exact X11_pick_j28_ok ho hq_1_0 s0 s1 s2
  · refine s_sub [0] rfl ?_
    exact X11_pick_j28_ok ho hq_1_0 s0 s1 s2
theorem pX11_pick_ok (ho : xok [(11, b0), (7, (b0 + 8)), (0, b2)] h.2.1) (hq_1_0 : f1 0 = some b2) (s0 : RS) (s1 : RS) (s2 : RS) (a0 : Int32) (a1 : Int32) : ∀ x, pX11_pick s0 s1 s2 a0 a1 = some x → aMet l 2 yX11_pick cX11_pick 3 (some .int) [.ref b0, .int a0, .int a1] (xw [(11, b0, f0, s0), (7, (b0 + 8), f1, s1), (0, b2, f2, s2)] h) (some (.int x.1)) (xw [(11, b0, f0, x.2), (7, (b0 + 8), f1, s1), (0, b2, f2, s2)] h) := fun x hx => a_meth (ini := false) (y := yX11_pick) (by decide +kernel) (fun q => by cases q) (fun _ => Nat.le_of_ble_eq_true rfl) (pX11_pick_w ho hq_1_0 s0 s1 s2 a0 a1) x hx _ _ ⟨rfl, rfl⟩
end
section
variable {l : Launch} {n0 S0 : Nat} {h : aH} {b0 b2 : Nat} {f0 f1 f2 : Nat → Option Nat}
abbrev MX11_heaviest : aM := (cX11_heaviest, RX11, 1, (some .int), false)
def pX11_heaviest (s0 : RS) (s1 : RS) (s2 : RS) : Option (Int32 × RS) :=
  if (s2.1 1) = 0 then
    (pX11_refuse s0 (8 : Int32)).bind fun x3 =>
    some (x3.1, x3.2)
  else
    (pX0_heaviestChange s2).bind fun x1 =>
    (pX11_tell s0 x1).bind fun x2 =>
    some (x2.1, x2.2)
theorem pX11_heaviest_w (ho : xok [(11, b0), (7, (b0 + 8)), (0, b2)] h.2.1) (hq_1_0 : f1 0 = some b2) (s0 : RS) (s1 : RS) (s2 : RS) : aS l 2 MX11_heaviest n0 S0 (oΦ (fun (x : Int32 × RS) => ((some (.int x.1)), xw [(11, b0, f0, x.2), (7, (b0 + 8), f1, s1), (0, b2, f2, s2)] h))) 0 [(0, .ref b0)] [] (xw [(11, b0, f0, s0), (7, (b0 + 8), f1, s1), (0, b2, f2, s2)] h) (pX11_heaviest s0 s1 s2) := by
  unfold pX11_heaviest
  refine s_aload_n (pc := 0) 0 dX11_heaviest_0 rfl ?_
  refine xg_X11_25 0 ho rfl (pc := 1) dX11_heaviest_1 rfl ?_
  refine xg_X11_174 1 ho rfl (pc := 4) dX11_heaviest_4 rfl hq_1_0 ?_
  refine xg_X11_164 2 ho rfl (pc := 7) dX11_heaviest_7 rfl ?_
  refine s_if_ne (tgt := 20) (pc := 10) dX11_heaviest_10 (by decide) (fun _ => ?_) (fun _ => ?_)
  · refine s_aload_n (pc := 13) 0 dX11_heaviest_13 rfl ?_
    refine s_bipush (v := 8) (pc := 14) dX11_heaviest_14 (by decide) ?_
    refine x_callV (M := MX11_heaviest) (L := [(11, b0, f0, s0), (7, (b0 + 8), f1, s1), (0, b2, f2, s2)]) (h := h) (j := 0) (As := [.int 8]) (st := []) (A := fun (x : Int32 × RS) => some (.int x.1)) (Lc := [(11, b0, f0, s0)]) (Lr := fun (x : Int32 × RS) => [(11, b0, f0, x.2)]) (L2 := fun (x : Int32 × RS) => [(11, b0, f0, x.2), (7, (b0 + 8), f1, s1), (0, b2, f2, s2)]) cv_X11_113 (by decide) (pc := 16) dX11_heaviest_16 ho rfl xc0_11 rfl rfl (Nat.le_of_ble_eq_true rfl) (xovs (L := [(11, b0, f0, s0), (7, (b0 + 8), f1, s1), (0, b2, f2, s2)]) (h := h) [(0, (11, b0, f0, s0))] ho ⟨rfl, trivial⟩).1 (fun x => (xovs (L := [(11, b0, f0, s0), (7, (b0 + 8), f1, s1), (0, b2, f2, s2)]) (h := h) [(0, (11, b0, f0, x.2))] ho ⟨rfl, trivial⟩).1) (fun x hx => pX11_refuse_ok (h := xw [(11, b0, f0, s0), (7, (b0 + 8), f1, s1), (0, b2, f2, s2)] h) (f0 := f0) (xok_sub ho [0] rfl (by decide)) s0 (8 : Int32) x hx) rfl (fun x3 _ => ?_)
    exact s_iret (pc := 19) dX11_heaviest_19 rfl (fun _ _ q => q)
  · refine s_aload_n (pc := 20) 0 dX11_heaviest_20 rfl ?_
    refine s_aload_n (pc := 21) 0 dX11_heaviest_21 rfl ?_
    refine xg_X11_25 0 ho rfl (pc := 22) dX11_heaviest_22 rfl ?_
    refine xg_X11_174 1 ho rfl (pc := 25) dX11_heaviest_25 rfl hq_1_0 ?_
    refine x_callV (M := MX11_heaviest) (L := [(11, b0, f0, s0), (7, (b0 + 8), f1, s1), (0, b2, f2, s2)]) (h := h) (j := 2) (As := []) (st := [.ref b0]) (A := fun (x : Int32) => some (.int x)) (Lc := [(0, b2, f2, s2)]) (Lr := fun (x : Int32) => [(0, b2, f2, s2)]) (L2 := fun (x : Int32) => [(11, b0, f0, s0), (7, (b0 + 8), f1, s1), (0, b2, f2, s2)]) cv_X11_256 (by decide) (pc := 28) dX11_heaviest_28 ho rfl xc0_0 rfl rfl (Nat.le_of_ble_eq_true rfl) (xovs (L := [(11, b0, f0, s0), (7, (b0 + 8), f1, s1), (0, b2, f2, s2)]) (h := h) [(2, (0, b2, f2, s2))] ho ⟨rfl, trivial⟩).1 (fun x => (xovs (L := [(11, b0, f0, s0), (7, (b0 + 8), f1, s1), (0, b2, f2, s2)]) (h := h) [(2, (0, b2, f2, s2))] ho ⟨rfl, trivial⟩).1) (fun x hx => pX0_heaviestChange_ok (h := xw [(11, b0, f0, s0), (7, (b0 + 8), f1, s1), (0, b2, f2, s2)] h) (f0 := f2) (xok_sub ho [2] rfl (by decide)) s2 x hx) rfl (fun x1 _ => ?_)
    refine x_callV (M := MX11_heaviest) (L := [(11, b0, f0, s0), (7, (b0 + 8), f1, s1), (0, b2, f2, s2)]) (h := h) (j := 0) (As := [.int x1]) (st := []) (A := fun (x : Int32 × RS) => some (.int x.1)) (Lc := [(11, b0, f0, s0)]) (Lr := fun (x : Int32 × RS) => [(11, b0, f0, x.2)]) (L2 := fun (x : Int32 × RS) => [(11, b0, f0, x.2), (7, (b0 + 8), f1, s1), (0, b2, f2, s2)]) cv_X11_169 (by decide) (pc := 31) dX11_heaviest_31 ho rfl xc0_11 rfl rfl (Nat.le_of_ble_eq_true rfl) (xovs (L := [(11, b0, f0, s0), (7, (b0 + 8), f1, s1), (0, b2, f2, s2)]) (h := h) [(0, (11, b0, f0, s0))] ho ⟨rfl, trivial⟩).1 (fun x => (xovs (L := [(11, b0, f0, s0), (7, (b0 + 8), f1, s1), (0, b2, f2, s2)]) (h := h) [(0, (11, b0, f0, x.2))] ho ⟨rfl, trivial⟩).1) (fun x hx => pX11_tell_ok (h := xw [(11, b0, f0, s0), (7, (b0 + 8), f1, s1), (0, b2, f2, s2)] h) (f0 := f0) (xok_sub ho [0] rfl (by decide)) s0 x1 x hx) rfl (fun x2 _ => ?_)
    exact s_iret (pc := 34) dX11_heaviest_34 rfl (fun _ _ q => q)
theorem pX11_heaviest_ok (ho : xok [(11, b0), (7, (b0 + 8)), (0, b2)] h.2.1) (hq_1_0 : f1 0 = some b2) (s0 : RS) (s1 : RS) (s2 : RS) : ∀ x, pX11_heaviest s0 s1 s2 = some x → aMet l 2 yX11_heaviest cX11_heaviest 1 (some .int) [.ref b0] (xw [(11, b0, f0, s0), (7, (b0 + 8), f1, s1), (0, b2, f2, s2)] h) (some (.int x.1)) (xw [(11, b0, f0, x.2), (7, (b0 + 8), f1, s1), (0, b2, f2, s2)] h) := fun x hx => a_meth (ini := false) (y := yX11_heaviest) (by decide +kernel) (fun q => by cases q) (fun _ => Nat.le_of_ble_eq_true rfl) (pX11_heaviest_w ho hq_1_0 s0 s1 s2) x hx _ _ ⟨rfl, rfl⟩
end
section
variable {l : Launch} {n0 S0 : Nat} {h : aH} {b0 b2 : Nat} {f0 f1 f2 : Nat → Option Nat}
abbrev MX11_alone : aM := (cX11_alone, RX11, 1, (some .int), false)
def pX11_alone (s0 : RS) (s1 : RS) (s2 : RS) : Option (Int32 × RS) :=
  (pX0_lonelyPuts s2).bind fun x1 =>
  (pX11_tell s0 x1).bind fun x2 =>
  some (x2.1, x2.2)
theorem pX11_alone_w (ho : xok [(11, b0), (7, (b0 + 8)), (0, b2)] h.2.1) (hq_1_0 : f1 0 = some b2) (s0 : RS) (s1 : RS) (s2 : RS) : aS l 1 MX11_alone n0 S0 (oΦ (fun (x : Int32 × RS) => ((some (.int x.1)), xw [(11, b0, f0, x.2), (7, (b0 + 8), f1, s1), (0, b2, f2, s2)] h))) 0 [(0, .ref b0)] [] (xw [(11, b0, f0, s0), (7, (b0 + 8), f1, s1), (0, b2, f2, s2)] h) (pX11_alone s0 s1 s2) := by
  unfold pX11_alone
  refine s_aload_n (pc := 0) 0 dX11_alone_0 rfl ?_
  refine s_aload_n (pc := 1) 0 dX11_alone_1 rfl ?_
  refine xg_X11_25 0 ho rfl (pc := 2) dX11_alone_2 rfl ?_
  refine xg_X11_174 1 ho rfl (pc := 5) dX11_alone_5 rfl hq_1_0 ?_
  refine x_callV (M := MX11_alone) (L := [(11, b0, f0, s0), (7, (b0 + 8), f1, s1), (0, b2, f2, s2)]) (h := h) (j := 2) (As := []) (st := [.ref b0]) (A := fun (x : Int32) => some (.int x)) (Lc := [(0, b2, f2, s2)]) (Lr := fun (x : Int32) => [(0, b2, f2, s2)]) (L2 := fun (x : Int32) => [(11, b0, f0, s0), (7, (b0 + 8), f1, s1), (0, b2, f2, s2)]) cv_X11_259 (by decide) (pc := 8) dX11_alone_8 ho rfl xc0_0 rfl rfl (Nat.le_of_ble_eq_true rfl) (xovs (L := [(11, b0, f0, s0), (7, (b0 + 8), f1, s1), (0, b2, f2, s2)]) (h := h) [(2, (0, b2, f2, s2))] ho ⟨rfl, trivial⟩).1 (fun x => (xovs (L := [(11, b0, f0, s0), (7, (b0 + 8), f1, s1), (0, b2, f2, s2)]) (h := h) [(2, (0, b2, f2, s2))] ho ⟨rfl, trivial⟩).1) (fun x hx => pX0_lonelyPuts_ok (h := xw [(11, b0, f0, s0), (7, (b0 + 8), f1, s1), (0, b2, f2, s2)] h) (f0 := f2) (xok_sub ho [2] rfl (by decide)) s2 x hx) rfl (fun x1 _ => ?_)
  refine x_callV (M := MX11_alone) (L := [(11, b0, f0, s0), (7, (b0 + 8), f1, s1), (0, b2, f2, s2)]) (h := h) (j := 0) (As := [.int x1]) (st := []) (A := fun (x : Int32 × RS) => some (.int x.1)) (Lc := [(11, b0, f0, s0)]) (Lr := fun (x : Int32 × RS) => [(11, b0, f0, x.2)]) (L2 := fun (x : Int32 × RS) => [(11, b0, f0, x.2), (7, (b0 + 8), f1, s1), (0, b2, f2, s2)]) cv_X11_169 (by decide) (pc := 11) dX11_alone_11 ho rfl xc0_11 rfl rfl (Nat.le_of_ble_eq_true rfl) (xovs (L := [(11, b0, f0, s0), (7, (b0 + 8), f1, s1), (0, b2, f2, s2)]) (h := h) [(0, (11, b0, f0, s0))] ho ⟨rfl, trivial⟩).1 (fun x => (xovs (L := [(11, b0, f0, s0), (7, (b0 + 8), f1, s1), (0, b2, f2, s2)]) (h := h) [(0, (11, b0, f0, x.2))] ho ⟨rfl, trivial⟩).1) (fun x hx => pX11_tell_ok (h := xw [(11, b0, f0, s0), (7, (b0 + 8), f1, s1), (0, b2, f2, s2)] h) (f0 := f0) (xok_sub ho [0] rfl (by decide)) s0 x1 x hx) rfl (fun x2 _ => ?_)
  exact s_iret (pc := 14) dX11_alone_14 rfl (fun _ _ q => q)
theorem pX11_alone_ok (ho : xok [(11, b0), (7, (b0 + 8)), (0, b2)] h.2.1) (hq_1_0 : f1 0 = some b2) (s0 : RS) (s1 : RS) (s2 : RS) : ∀ x, pX11_alone s0 s1 s2 = some x → aMet l 1 yX11_alone cX11_alone 1 (some .int) [.ref b0] (xw [(11, b0, f0, s0), (7, (b0 + 8), f1, s1), (0, b2, f2, s2)] h) (some (.int x.1)) (xw [(11, b0, f0, x.2), (7, (b0 + 8), f1, s1), (0, b2, f2, s2)] h) := fun x hx => a_meth (ini := false) (y := yX11_alone) (by decide +kernel) (fun q => by cases q) (fun _ => Nat.le_of_ble_eq_true rfl) (pX11_alone_w ho hq_1_0 s0 s1 s2) x hx _ _ ⟨rfl, rfl⟩
end
section
variable {l : Launch} {n0 S0 : Nat} {h : aH} {b0 b2 : Nat} {f0 f1 f2 : Nat → Option Nat}
abbrev MX11_faultOfSet : aM := (cX11_faultOfSet, RX11, 2, (some .int), false)
def pX11_faultOfSet (s0 : RS) (s1 : RS) (s2 : RS) (a0 : Int32) : Option Int32 :=
  (pX0_isSet s2 a0).bind fun x1 =>
  if x1 = true then
    (pX0_isClosed s2 a0).bind fun x2 =>
    if x2 = true then
      some (0 : Int32)
    else
      some (9 : Int32)
  else
    some (2 : Int32)
theorem pX11_faultOfSet_w (ho : xok [(11, b0), (7, (b0 + 8)), (0, b2)] h.2.1) (hq_1_0 : f1 0 = some b2) (s0 : RS) (s1 : RS) (s2 : RS) (a0 : Int32) : aS l 3 MX11_faultOfSet n0 S0 (oΦ (fun (x : Int32) => ((some (.int x)), xw [(11, b0, f0, s0), (7, (b0 + 8), f1, s1), (0, b2, f2, s2)] h))) 0 [(0, .ref b0), (1, .int a0)] [] (xw [(11, b0, f0, s0), (7, (b0 + 8), f1, s1), (0, b2, f2, s2)] h) (pX11_faultOfSet s0 s1 s2 a0) := by
  unfold pX11_faultOfSet
  refine s_aload_n (pc := 0) 0 dX11_faultOfSet_0 rfl ?_
  refine xg_X11_25 0 ho rfl (pc := 1) dX11_faultOfSet_1 rfl ?_
  refine xg_X11_174 1 ho rfl (pc := 4) dX11_faultOfSet_4 rfl hq_1_0 ?_
  refine s_iload_n (pc := 7) 1 dX11_faultOfSet_7 rfl ?_
  refine x_callV (M := MX11_faultOfSet) (L := [(11, b0, f0, s0), (7, (b0 + 8), f1, s1), (0, b2, f2, s2)]) (h := h) (j := 2) (As := [.int a0]) (st := []) (A := fun (x : Bool) => some (.int (b2i x))) (Lc := [(0, b2, f2, s2)]) (Lr := fun (x : Bool) => [(0, b2, f2, s2)]) (L2 := fun (x : Bool) => [(11, b0, f0, s0), (7, (b0 + 8), f1, s1), (0, b2, f2, s2)]) cv_X11_241 (by decide) (pc := 8) dX11_faultOfSet_8 ho rfl xc0_0 rfl rfl (Nat.le_of_ble_eq_true rfl) (xovs (L := [(11, b0, f0, s0), (7, (b0 + 8), f1, s1), (0, b2, f2, s2)]) (h := h) [(2, (0, b2, f2, s2))] ho ⟨rfl, trivial⟩).1 (fun x => (xovs (L := [(11, b0, f0, s0), (7, (b0 + 8), f1, s1), (0, b2, f2, s2)]) (h := h) [(2, (0, b2, f2, s2))] ho ⟨rfl, trivial⟩).1) (fun x hx => pX0_isSet_ok (h := xw [(11, b0, f0, s0), (7, (b0 + 8), f1, s1), (0, b2, f2, s2)] h) (f0 := f2) (xok_sub ho [2] rfl (by decide)) s2 a0 x hx) rfl (fun x1 _ => ?_)
  refine s_if_neB (tgt := 16) (pc := 11) dX11_faultOfSet_11 (by decide) (fun _ => ?_) (fun _ => ?_)
  · refine s_aload_n (pc := 16) 0 dX11_faultOfSet_16 rfl ?_
    refine xg_X11_25 0 ho rfl (pc := 17) dX11_faultOfSet_17 rfl ?_
    refine xg_X11_174 1 ho rfl (pc := 20) dX11_faultOfSet_20 rfl hq_1_0 ?_
    refine s_iload_n (pc := 23) 1 dX11_faultOfSet_23 rfl ?_
    refine x_callV (M := MX11_faultOfSet) (L := [(11, b0, f0, s0), (7, (b0 + 8), f1, s1), (0, b2, f2, s2)]) (h := h) (j := 2) (As := [.int a0]) (st := []) (A := fun (x : Bool) => some (.int (b2i x))) (Lc := [(0, b2, f2, s2)]) (Lr := fun (x : Bool) => [(0, b2, f2, s2)]) (L2 := fun (x : Bool) => [(11, b0, f0, s0), (7, (b0 + 8), f1, s1), (0, b2, f2, s2)]) cv_X11_244 (by decide) (pc := 24) dX11_faultOfSet_24 ho rfl xc0_0 rfl rfl (Nat.le_of_ble_eq_true rfl) (xovs (L := [(11, b0, f0, s0), (7, (b0 + 8), f1, s1), (0, b2, f2, s2)]) (h := h) [(2, (0, b2, f2, s2))] ho ⟨rfl, trivial⟩).1 (fun x => (xovs (L := [(11, b0, f0, s0), (7, (b0 + 8), f1, s1), (0, b2, f2, s2)]) (h := h) [(2, (0, b2, f2, s2))] ho ⟨rfl, trivial⟩).1) (fun x hx => pX0_isClosed_ok (h := xw [(11, b0, f0, s0), (7, (b0 + 8), f1, s1), (0, b2, f2, s2)] h) (f0 := f2) (xok_sub ho [2] rfl (by decide)) s2 a0 x hx) rfl (fun x2 _ => ?_)
    refine s_if_eqB (tgt := 34) (pc := 27) dX11_faultOfSet_27 (by decide) (fun _ => ?_) (fun _ => ?_)
    · refine s_iconst (v := 0) (pc := 30) dX11_faultOfSet_30 (by decide) ?_
      refine s_goto (tgt := 36) (pc := 31) dX11_faultOfSet_31 (by decide) ?_
      exact s_iret (pc := 36) dX11_faultOfSet_36 rfl (fun _ _ q => q)
    · refine s_bipush (v := 9) (pc := 34) dX11_faultOfSet_34 (by decide) ?_
      exact s_iret (pc := 36) dX11_faultOfSet_36 rfl (fun _ _ q => q)
  · refine s_iconst (v := 2) (pc := 14) dX11_faultOfSet_14 (by decide) ?_
    exact s_iret (pc := 15) dX11_faultOfSet_15 rfl (fun _ _ q => q)
theorem pX11_faultOfSet_ok (ho : xok [(11, b0), (7, (b0 + 8)), (0, b2)] h.2.1) (hq_1_0 : f1 0 = some b2) (s0 : RS) (s1 : RS) (s2 : RS) (a0 : Int32) : ∀ x, pX11_faultOfSet s0 s1 s2 a0 = some x → aMet l 3 yX11_faultOfSet cX11_faultOfSet 2 (some .int) [.ref b0, .int a0] (xw [(11, b0, f0, s0), (7, (b0 + 8), f1, s1), (0, b2, f2, s2)] h) (some (.int x)) (xw [(11, b0, f0, s0), (7, (b0 + 8), f1, s1), (0, b2, f2, s2)] h) := fun x hx => a_meth (ini := false) (y := yX11_faultOfSet) (by decide +kernel) (fun q => by cases q) (fun _ => Nat.le_of_ble_eq_true rfl) (pX11_faultOfSet_w ho hq_1_0 s0 s1 s2 a0) x hx _ _ ⟨rfl, rfl⟩
end
section
variable {l : Launch} {n0 S0 : Nat} {h : aH} {b0 b2 : Nat} {f0 f1 f2 f3 : Nat → Option Nat}
abbrev MX11_size : aM := (cX11_size, RX11, 3, (some .int), false)
def pX11_size (s0 : RS) (s1 : RS) (s2 : RS) (s3 : RS) (a0 : Int32) : Option (Int32 × RS × RS) :=
  (pX11_faultOfSet s0 s1 s2 a0).bind fun x1 =>
  if x1 = 0 then
    (pX2_fill s3 s2 a0).bind fun x2 =>
    (pX11_tell s0 (x2.1 0)).bind fun x3 =>
    some (x3.1, x3.2, x2)
  else
    (pX11_refuse s0 x1).bind fun x4 =>
    some (x4.1, x4.2, s3)
theorem pX11_size_w (ho : xok [(11, b0), (7, (b0 + 8)), (0, b2), (2, (b0 + 26))] h.2.1) (hq_1_0 : f1 0 = some b2) (s0 : RS) (s1 : RS) (s2 : RS) (s3 : RS) (a0 : Int32) : aS l 4 MX11_size n0 S0 (oΦ (fun (x : Int32 × RS × RS) => ((some (.int x.1)), xw [(11, b0, f0, x.2.1), (7, (b0 + 8), f1, s1), (0, b2, f2, s2), (2, (b0 + 26), f3, x.2.2)] h))) 0 [(0, .ref b0), (1, .int a0)] [] (xw [(11, b0, f0, s0), (7, (b0 + 8), f1, s1), (0, b2, f2, s2), (2, (b0 + 26), f3, s3)] h) (pX11_size s0 s1 s2 s3 a0) := by
  unfold pX11_size
  refine s_aload_n (pc := 0) 0 dX11_size_0 rfl ?_
  refine s_iload_n (pc := 1) 1 dX11_size_1 rfl ?_
  refine x_callV (M := MX11_size) (L := [(11, b0, f0, s0), (7, (b0 + 8), f1, s1), (0, b2, f2, s2), (2, (b0 + 26), f3, s3)]) (h := h) (j := 0) (As := [.int a0]) (st := []) (A := fun (x : Int32) => some (.int x)) (Lc := [(11, b0, f0, s0), (7, (b0 + 8), f1, s1), (0, b2, f2, s2)]) (Lr := fun (x : Int32) => [(11, b0, f0, s0), (7, (b0 + 8), f1, s1), (0, b2, f2, s2)]) (L2 := fun (x : Int32) => [(11, b0, f0, s0), (7, (b0 + 8), f1, s1), (0, b2, f2, s2), (2, (b0 + 26), f3, s3)]) cv_X11_262 (by decide) (pc := 2) dX11_size_2 ho rfl xc0_11 rfl rfl (Nat.le_of_ble_eq_true rfl) (xovs (L := [(11, b0, f0, s0), (7, (b0 + 8), f1, s1), (0, b2, f2, s2), (2, (b0 + 26), f3, s3)]) (h := h) [(0, (11, b0, f0, s0)), (1, (7, (b0 + 8), f1, s1)), (2, (0, b2, f2, s2))] ho ⟨rfl, rfl, rfl, trivial⟩).1 (fun x => (xovs (L := [(11, b0, f0, s0), (7, (b0 + 8), f1, s1), (0, b2, f2, s2), (2, (b0 + 26), f3, s3)]) (h := h) [(0, (11, b0, f0, s0)), (1, (7, (b0 + 8), f1, s1)), (2, (0, b2, f2, s2))] ho ⟨rfl, rfl, rfl, trivial⟩).1) (fun x hx => pX11_faultOfSet_ok (h := xw [(11, b0, f0, s0), (7, (b0 + 8), f1, s1), (0, b2, f2, s2), (2, (b0 + 26), f3, s3)] h) (f0 := f0) (f1 := f1) (f2 := f2) (xok_sub ho [0, 1, 2] rfl (by decide)) hq_1_0 s0 s1 s2 a0 x hx) rfl (fun x1 _ => ?_)
  refine s_istore_n (lv' := [(2, .int x1), (0, .ref b0), (1, .int a0)]) (pc := 5) dX11_size_5 (by decide) rfl ?_
  refine s_iload_n (pc := 6) 0 dX11_size_6 rfl ?_
  refine s_if_eq (tgt := 16) (pc := 7) dX11_size_7 (by decide) (fun _ => ?_) (fun _ => ?_)
  · refine s_aload_n (pc := 16) 1 dX11_size_16 rfl ?_
    refine xg_X11_36 0 ho rfl (pc := 17) dX11_size_17 rfl ?_
    refine s_aload_n (pc := 20) 1 dX11_size_20 rfl ?_
    refine xg_X11_25 0 ho rfl (pc := 21) dX11_size_21 rfl ?_
    refine xg_X11_174 1 ho rfl (pc := 24) dX11_size_24 rfl hq_1_0 ?_
    refine s_iload_n (pc := 27) 2 dX11_size_27 rfl ?_
    refine x_callV (M := MX11_size) (L := [(11, b0, f0, s0), (7, (b0 + 8), f1, s1), (0, b2, f2, s2), (2, (b0 + 26), f3, s3)]) (h := h) (j := 3) (As := [.ref b2, .int a0]) (st := []) (A := fun (x : RS) => none) (Lc := [(2, (b0 + 26), f3, s3), (0, b2, f2, s2)]) (Lr := fun (x : RS) => [(2, (b0 + 26), f3, x), (0, b2, f2, s2)]) (L2 := fun (x : RS) => [(11, b0, f0, s0), (7, (b0 + 8), f1, s1), (0, b2, f2, s2), (2, (b0 + 26), f3, x)]) cv_X11_265 (by decide) (pc := 28) dX11_size_28 ho rfl xc0_2 rfl rfl (Nat.le_of_ble_eq_true rfl) (xovs (L := [(11, b0, f0, s0), (7, (b0 + 8), f1, s1), (0, b2, f2, s2), (2, (b0 + 26), f3, s3)]) (h := h) [(3, (2, (b0 + 26), f3, s3)), (2, (0, b2, f2, s2))] ho ⟨rfl, rfl, trivial⟩).1 (fun x => (xovs (L := [(11, b0, f0, s0), (7, (b0 + 8), f1, s1), (0, b2, f2, s2), (2, (b0 + 26), f3, s3)]) (h := h) [(3, (2, (b0 + 26), f3, x)), (2, (0, b2, f2, s2))] ho ⟨rfl, rfl, trivial⟩).1) (fun x hx => pX2_fill_ok (h := xw [(11, b0, f0, s0), (7, (b0 + 8), f1, s1), (0, b2, f2, s2), (2, (b0 + 26), f3, s3)] h) (f0 := f3) (f1 := f2) (xok_sub ho [3, 2] rfl (by decide)) s3 s2 a0 x hx) rfl (fun x2 _ => ?_)
    refine s_aload_n (pc := 31) 1 dX11_size_31 rfl ?_
    refine s_aload_n (pc := 32) 1 dX11_size_32 rfl ?_
    refine xg_X11_36 0 ho rfl (pc := 33) dX11_size_33 rfl ?_
    refine xg_X11_269 3 ho rfl (pc := 36) dX11_size_36 rfl ?_
    refine x_callV (M := MX11_size) (L := [(11, b0, f0, s0), (7, (b0 + 8), f1, s1), (0, b2, f2, s2), (2, (b0 + 26), f3, x2)]) (h := h) (j := 0) (As := [.int (x2.1 0)]) (st := []) (A := fun (x : Int32 × RS) => some (.int x.1)) (Lc := [(11, b0, f0, s0)]) (Lr := fun (x : Int32 × RS) => [(11, b0, f0, x.2)]) (L2 := fun (x : Int32 × RS) => [(11, b0, f0, x.2), (7, (b0 + 8), f1, s1), (0, b2, f2, s2), (2, (b0 + 26), f3, x2)]) cv_X11_169 (by decide) (pc := 39) dX11_size_39 ho rfl xc0_11 rfl rfl (Nat.le_of_ble_eq_true rfl) (xovs (L := [(11, b0, f0, s0), (7, (b0 + 8), f1, s1), (0, b2, f2, s2), (2, (b0 + 26), f3, x2)]) (h := h) [(0, (11, b0, f0, s0))] ho ⟨rfl, trivial⟩).1 (fun x => (xovs (L := [(11, b0, f0, s0), (7, (b0 + 8), f1, s1), (0, b2, f2, s2), (2, (b0 + 26), f3, x2)]) (h := h) [(0, (11, b0, f0, x.2))] ho ⟨rfl, trivial⟩).1) (fun x hx => pX11_tell_ok (h := xw [(11, b0, f0, s0), (7, (b0 + 8), f1, s1), (0, b2, f2, s2), (2, (b0 + 26), f3, x2)] h) (f0 := f0) (xok_sub ho [0] rfl (by decide)) s0 (x2.1 0) x hx) rfl (fun x3 _ => ?_)
    exact s_iret (pc := 42) dX11_size_42 rfl (fun _ _ q => q)
  · refine s_aload_n (pc := 10) 1 dX11_size_10 rfl ?_
    refine s_iload_n (pc := 11) 0 dX11_size_11 rfl ?_
    refine x_callV (M := MX11_size) (L := [(11, b0, f0, s0), (7, (b0 + 8), f1, s1), (0, b2, f2, s2), (2, (b0 + 26), f3, s3)]) (h := h) (j := 0) (As := [.int x1]) (st := []) (A := fun (x : Int32 × RS) => some (.int x.1)) (Lc := [(11, b0, f0, s0)]) (Lr := fun (x : Int32 × RS) => [(11, b0, f0, x.2)]) (L2 := fun (x : Int32 × RS) => [(11, b0, f0, x.2), (7, (b0 + 8), f1, s1), (0, b2, f2, s2), (2, (b0 + 26), f3, s3)]) cv_X11_113 (by decide) (pc := 12) dX11_size_12 ho rfl xc0_11 rfl rfl (Nat.le_of_ble_eq_true rfl) (xovs (L := [(11, b0, f0, s0), (7, (b0 + 8), f1, s1), (0, b2, f2, s2), (2, (b0 + 26), f3, s3)]) (h := h) [(0, (11, b0, f0, s0))] ho ⟨rfl, trivial⟩).1 (fun x => (xovs (L := [(11, b0, f0, s0), (7, (b0 + 8), f1, s1), (0, b2, f2, s2), (2, (b0 + 26), f3, s3)]) (h := h) [(0, (11, b0, f0, x.2))] ho ⟨rfl, trivial⟩).1) (fun x hx => pX11_refuse_ok (h := xw [(11, b0, f0, s0), (7, (b0 + 8), f1, s1), (0, b2, f2, s2), (2, (b0 + 26), f3, s3)] h) (f0 := f0) (xok_sub ho [0] rfl (by decide)) s0 x1 x hx) rfl (fun x4 _ => ?_)
    exact s_iret (pc := 15) dX11_size_15 rfl (fun _ _ q => q)
theorem pX11_size_ok (ho : xok [(11, b0), (7, (b0 + 8)), (0, b2), (2, (b0 + 26))] h.2.1) (hq_1_0 : f1 0 = some b2) (s0 : RS) (s1 : RS) (s2 : RS) (s3 : RS) (a0 : Int32) : ∀ x, pX11_size s0 s1 s2 s3 a0 = some x → aMet l 4 yX11_size cX11_size 3 (some .int) [.ref b0, .int a0] (xw [(11, b0, f0, s0), (7, (b0 + 8), f1, s1), (0, b2, f2, s2), (2, (b0 + 26), f3, s3)] h) (some (.int x.1)) (xw [(11, b0, f0, x.2.1), (7, (b0 + 8), f1, s1), (0, b2, f2, s2), (2, (b0 + 26), f3, x.2.2)] h) := fun x hx => a_meth (ini := false) (y := yX11_size) (by decide +kernel) (fun q => by cases q) (fun _ => Nat.le_of_ble_eq_true rfl) (pX11_size_w ho hq_1_0 s0 s1 s2 s3 a0) x hx _ _ ⟨rfl, rfl⟩
end
section
variable {l : Launch} {n0 S0 : Nat} {h : aH} {b0 b2 : Nat} {f0 f1 f2 f3 : Nat → Option Nat}
abbrev MX11_thing : aM := (cX11_thing, RX11, 4, (some .int), false)
def pX11_thing (s0 : RS) (s1 : RS) (s2 : RS) (s3 : RS) (a0 : Int32) (a1 : Int32) : Option (Int32 × RS × RS) :=
  (pX11_faultOfSet s0 s1 s2 a0).bind fun x1 =>
  if x1 = 0 then
    (pX2_fill s3 s2 a0).bind fun x2 =>
    (pX2_isPlace x2 a1).bind fun x3 =>
    if x3 = true then
      g_in a1 16 (
      (pX11_tell s0 (x2.2.2.1 1 a1.toNatClampNeg)).bind fun x4 =>
      some (x4.1, x4.2, x2))
    else
      (pX11_refuse s0 (8 : Int32)).bind fun x5 =>
      some (x5.1, x5.2, x2)
  else
    (pX11_refuse s0 x1).bind fun x6 =>
    some (x6.1, x6.2, s3)
theorem pX11_thing_w (ho : xok [(11, b0), (7, (b0 + 8)), (0, b2), (2, (b0 + 26))] h.2.1) (hq_1_0 : f1 0 = some b2) (s0 : RS) (s1 : RS) (s2 : RS) (s3 : RS) (a0 : Int32) (a1 : Int32) : aS l 4 MX11_thing n0 S0 (oΦ (fun (x : Int32 × RS × RS) => ((some (.int x.1)), xw [(11, b0, f0, x.2.1), (7, (b0 + 8), f1, s1), (0, b2, f2, s2), (2, (b0 + 26), f3, x.2.2)] h))) 0 [(0, .ref b0), (1, .int a0), (2, .int a1)] [] (xw [(11, b0, f0, s0), (7, (b0 + 8), f1, s1), (0, b2, f2, s2), (2, (b0 + 26), f3, s3)] h) (pX11_thing s0 s1 s2 s3 a0 a1) := by
  unfold pX11_thing
  refine s_aload_n (pc := 0) 0 dX11_thing_0 rfl ?_
  refine s_iload_n (pc := 1) 1 dX11_thing_1 rfl ?_
  refine x_callV (M := MX11_thing) (L := [(11, b0, f0, s0), (7, (b0 + 8), f1, s1), (0, b2, f2, s2), (2, (b0 + 26), f3, s3)]) (h := h) (j := 0) (As := [.int a0]) (st := []) (A := fun (x : Int32) => some (.int x)) (Lc := [(11, b0, f0, s0), (7, (b0 + 8), f1, s1), (0, b2, f2, s2)]) (Lr := fun (x : Int32) => [(11, b0, f0, s0), (7, (b0 + 8), f1, s1), (0, b2, f2, s2)]) (L2 := fun (x : Int32) => [(11, b0, f0, s0), (7, (b0 + 8), f1, s1), (0, b2, f2, s2), (2, (b0 + 26), f3, s3)]) cv_X11_262 (by decide) (pc := 2) dX11_thing_2 ho rfl xc0_11 rfl rfl (Nat.le_of_ble_eq_true rfl) (xovs (L := [(11, b0, f0, s0), (7, (b0 + 8), f1, s1), (0, b2, f2, s2), (2, (b0 + 26), f3, s3)]) (h := h) [(0, (11, b0, f0, s0)), (1, (7, (b0 + 8), f1, s1)), (2, (0, b2, f2, s2))] ho ⟨rfl, rfl, rfl, trivial⟩).1 (fun x => (xovs (L := [(11, b0, f0, s0), (7, (b0 + 8), f1, s1), (0, b2, f2, s2), (2, (b0 + 26), f3, s3)]) (h := h) [(0, (11, b0, f0, s0)), (1, (7, (b0 + 8), f1, s1)), (2, (0, b2, f2, s2))] ho ⟨rfl, rfl, rfl, trivial⟩).1) (fun x hx => pX11_faultOfSet_ok (h := xw [(11, b0, f0, s0), (7, (b0 + 8), f1, s1), (0, b2, f2, s2), (2, (b0 + 26), f3, s3)] h) (f0 := f0) (f1 := f1) (f2 := f2) (xok_sub ho [0, 1, 2] rfl (by decide)) hq_1_0 s0 s1 s2 a0 x hx) rfl (fun x1 _ => ?_)
  refine s_istore_n (lv' := [(3, .int x1), (0, .ref b0), (1, .int a0), (2, .int a1)]) (pc := 5) dX11_thing_5 (by decide) rfl ?_
  refine s_iload_n (pc := 6) 0 dX11_thing_6 rfl ?_
  refine s_if_eq (tgt := 16) (pc := 7) dX11_thing_7 (by decide) (fun _ => ?_) (fun _ => ?_)
  · refine s_aload_n (pc := 16) 1 dX11_thing_16 rfl ?_
    refine xg_X11_36 0 ho rfl (pc := 17) dX11_thing_17 rfl ?_
    refine s_aload_n (pc := 20) 1 dX11_thing_20 rfl ?_
    refine xg_X11_25 0 ho rfl (pc := 21) dX11_thing_21 rfl ?_
    refine xg_X11_174 1 ho rfl (pc := 24) dX11_thing_24 rfl hq_1_0 ?_
    refine s_iload_n (pc := 27) 2 dX11_thing_27 rfl ?_
    refine x_callV (M := MX11_thing) (L := [(11, b0, f0, s0), (7, (b0 + 8), f1, s1), (0, b2, f2, s2), (2, (b0 + 26), f3, s3)]) (h := h) (j := 3) (As := [.ref b2, .int a0]) (st := []) (A := fun (x : RS) => none) (Lc := [(2, (b0 + 26), f3, s3), (0, b2, f2, s2)]) (Lr := fun (x : RS) => [(2, (b0 + 26), f3, x), (0, b2, f2, s2)]) (L2 := fun (x : RS) => [(11, b0, f0, s0), (7, (b0 + 8), f1, s1), (0, b2, f2, s2), (2, (b0 + 26), f3, x)]) cv_X11_265 (by decide) (pc := 28) dX11_thing_28 ho rfl xc0_2 rfl rfl (Nat.le_of_ble_eq_true rfl) (xovs (L := [(11, b0, f0, s0), (7, (b0 + 8), f1, s1), (0, b2, f2, s2), (2, (b0 + 26), f3, s3)]) (h := h) [(3, (2, (b0 + 26), f3, s3)), (2, (0, b2, f2, s2))] ho ⟨rfl, rfl, trivial⟩).1 (fun x => (xovs (L := [(11, b0, f0, s0), (7, (b0 + 8), f1, s1), (0, b2, f2, s2), (2, (b0 + 26), f3, s3)]) (h := h) [(3, (2, (b0 + 26), f3, x)), (2, (0, b2, f2, s2))] ho ⟨rfl, rfl, trivial⟩).1) (fun x hx => pX2_fill_ok (h := xw [(11, b0, f0, s0), (7, (b0 + 8), f1, s1), (0, b2, f2, s2), (2, (b0 + 26), f3, s3)] h) (f0 := f3) (f1 := f2) (xok_sub ho [3, 2] rfl (by decide)) s3 s2 a0 x hx) rfl (fun x2 _ => ?_)
    refine s_aload_n (pc := 31) 1 dX11_thing_31 rfl ?_
    refine xg_X11_36 0 ho rfl (pc := 32) dX11_thing_32 rfl ?_
    refine s_iload_n (pc := 35) 3 dX11_thing_35 rfl ?_
    refine x_callV (M := MX11_thing) (L := [(11, b0, f0, s0), (7, (b0 + 8), f1, s1), (0, b2, f2, s2), (2, (b0 + 26), f3, x2)]) (h := h) (j := 3) (As := [.int a1]) (st := []) (A := fun (x : Bool) => some (.int (b2i x))) (Lc := [(2, (b0 + 26), f3, x2)]) (Lr := fun (x : Bool) => [(2, (b0 + 26), f3, x2)]) (L2 := fun (x : Bool) => [(11, b0, f0, s0), (7, (b0 + 8), f1, s1), (0, b2, f2, s2), (2, (b0 + 26), f3, x2)]) cv_X11_272 (by decide) (pc := 36) dX11_thing_36 ho rfl xc0_2 rfl rfl (Nat.le_of_ble_eq_true rfl) (xovs (L := [(11, b0, f0, s0), (7, (b0 + 8), f1, s1), (0, b2, f2, s2), (2, (b0 + 26), f3, x2)]) (h := h) [(3, (2, (b0 + 26), f3, x2))] ho ⟨rfl, trivial⟩).1 (fun x => (xovs (L := [(11, b0, f0, s0), (7, (b0 + 8), f1, s1), (0, b2, f2, s2), (2, (b0 + 26), f3, x2)]) (h := h) [(3, (2, (b0 + 26), f3, x2))] ho ⟨rfl, trivial⟩).1) (fun x hx => pX2_isPlace_ok (h := xw [(11, b0, f0, s0), (7, (b0 + 8), f1, s1), (0, b2, f2, s2), (2, (b0 + 26), f3, x2)] h) (f0 := f3) (xok_sub ho [3] rfl (by decide)) x2 a1 x hx) rfl (fun x3 _ => ?_)
    refine s_if_neB (tgt := 49) (pc := 39) dX11_thing_39 (by decide) (fun _ => ?_) (fun _ => ?_)
    · refine s_aload_n (pc := 49) 1 dX11_thing_49 rfl ?_
      refine s_aload_n (pc := 50) 1 dX11_thing_50 rfl ?_
      refine xg_X11_36 0 ho rfl (pc := 51) dX11_thing_51 rfl ?_
      refine xg_X11_275 3 ho rfl (pc := 54) dX11_thing_54 rfl ?_
      refine s_iload_n (pc := 57) 3 dX11_thing_57 rfl ?_
      refine xl_2_1 3 ho rfl (pc := 58) dX11_thing_58 ?_
      refine x_callV (M := MX11_thing) (L := [(11, b0, f0, s0), (7, (b0 + 8), f1, s1), (0, b2, f2, s2), (2, (b0 + 26), f3, x2)]) (h := h) (j := 0) (As := [.int (x2.2.2.1 1 a1.toNatClampNeg)]) (st := []) (A := fun (x : Int32 × RS) => some (.int x.1)) (Lc := [(11, b0, f0, s0)]) (Lr := fun (x : Int32 × RS) => [(11, b0, f0, x.2)]) (L2 := fun (x : Int32 × RS) => [(11, b0, f0, x.2), (7, (b0 + 8), f1, s1), (0, b2, f2, s2), (2, (b0 + 26), f3, x2)]) cv_X11_169 (by decide) (pc := 59) dX11_thing_59 ho rfl xc0_11 rfl rfl (Nat.le_of_ble_eq_true rfl) (xovs (L := [(11, b0, f0, s0), (7, (b0 + 8), f1, s1), (0, b2, f2, s2), (2, (b0 + 26), f3, x2)]) (h := h) [(0, (11, b0, f0, s0))] ho ⟨rfl, trivial⟩).1 (fun x => (xovs (L := [(11, b0, f0, s0), (7, (b0 + 8), f1, s1), (0, b2, f2, s2), (2, (b0 + 26), f3, x2)]) (h := h) [(0, (11, b0, f0, x.2))] ho ⟨rfl, trivial⟩).1) (fun x hx => pX11_tell_ok (h := xw [(11, b0, f0, s0), (7, (b0 + 8), f1, s1), (0, b2, f2, s2), (2, (b0 + 26), f3, x2)] h) (f0 := f0) (xok_sub ho [0] rfl (by decide)) s0 (x2.2.2.1 1 a1.toNatClampNeg) x hx) rfl (fun x4 _ => ?_)
      exact s_iret (pc := 62) dX11_thing_62 rfl (fun _ _ q => q)
    · refine s_aload_n (pc := 42) 1 dX11_thing_42 rfl ?_
      refine s_bipush (v := 8) (pc := 43) dX11_thing_43 (by decide) ?_
      refine x_callV (M := MX11_thing) (L := [(11, b0, f0, s0), (7, (b0 + 8), f1, s1), (0, b2, f2, s2), (2, (b0 + 26), f3, x2)]) (h := h) (j := 0) (As := [.int 8]) (st := []) (A := fun (x : Int32 × RS) => some (.int x.1)) (Lc := [(11, b0, f0, s0)]) (Lr := fun (x : Int32 × RS) => [(11, b0, f0, x.2)]) (L2 := fun (x : Int32 × RS) => [(11, b0, f0, x.2), (7, (b0 + 8), f1, s1), (0, b2, f2, s2), (2, (b0 + 26), f3, x2)]) cv_X11_113 (by decide) (pc := 45) dX11_thing_45 ho rfl xc0_11 rfl rfl (Nat.le_of_ble_eq_true rfl) (xovs (L := [(11, b0, f0, s0), (7, (b0 + 8), f1, s1), (0, b2, f2, s2), (2, (b0 + 26), f3, x2)]) (h := h) [(0, (11, b0, f0, s0))] ho ⟨rfl, trivial⟩).1 (fun x => (xovs (L := [(11, b0, f0, s0), (7, (b0 + 8), f1, s1), (0, b2, f2, s2), (2, (b0 + 26), f3, x2)]) (h := h) [(0, (11, b0, f0, x.2))] ho ⟨rfl, trivial⟩).1) (fun x hx => pX11_refuse_ok (h := xw [(11, b0, f0, s0), (7, (b0 + 8), f1, s1), (0, b2, f2, s2), (2, (b0 + 26), f3, x2)] h) (f0 := f0) (xok_sub ho [0] rfl (by decide)) s0 (8 : Int32) x hx) rfl (fun x5 _ => ?_)
      exact s_iret (pc := 48) dX11_thing_48 rfl (fun _ _ q => q)
  · refine s_aload_n (pc := 10) 1 dX11_thing_10 rfl ?_
    refine s_iload_n (pc := 11) 0 dX11_thing_11 rfl ?_
    refine x_callV (M := MX11_thing) (L := [(11, b0, f0, s0), (7, (b0 + 8), f1, s1), (0, b2, f2, s2), (2, (b0 + 26), f3, s3)]) (h := h) (j := 0) (As := [.int x1]) (st := []) (A := fun (x : Int32 × RS) => some (.int x.1)) (Lc := [(11, b0, f0, s0)]) (Lr := fun (x : Int32 × RS) => [(11, b0, f0, x.2)]) (L2 := fun (x : Int32 × RS) => [(11, b0, f0, x.2), (7, (b0 + 8), f1, s1), (0, b2, f2, s2), (2, (b0 + 26), f3, s3)]) cv_X11_113 (by decide) (pc := 12) dX11_thing_12 ho rfl xc0_11 rfl rfl (Nat.le_of_ble_eq_true rfl) (xovs (L := [(11, b0, f0, s0), (7, (b0 + 8), f1, s1), (0, b2, f2, s2), (2, (b0 + 26), f3, s3)]) (h := h) [(0, (11, b0, f0, s0))] ho ⟨rfl, trivial⟩).1 (fun x => (xovs (L := [(11, b0, f0, s0), (7, (b0 + 8), f1, s1), (0, b2, f2, s2), (2, (b0 + 26), f3, s3)]) (h := h) [(0, (11, b0, f0, x.2))] ho ⟨rfl, trivial⟩).1) (fun x hx => pX11_refuse_ok (h := xw [(11, b0, f0, s0), (7, (b0 + 8), f1, s1), (0, b2, f2, s2), (2, (b0 + 26), f3, s3)] h) (f0 := f0) (xok_sub ho [0] rfl (by decide)) s0 x1 x hx) rfl (fun x6 _ => ?_)
    exact s_iret (pc := 15) dX11_thing_15 rfl (fun _ _ q => q)
theorem pX11_thing_ok (ho : xok [(11, b0), (7, (b0 + 8)), (0, b2), (2, (b0 + 26))] h.2.1) (hq_1_0 : f1 0 = some b2) (s0 : RS) (s1 : RS) (s2 : RS) (s3 : RS) (a0 : Int32) (a1 : Int32) : ∀ x, pX11_thing s0 s1 s2 s3 a0 a1 = some x → aMet l 4 yX11_thing cX11_thing 4 (some .int) [.ref b0, .int a0, .int a1] (xw [(11, b0, f0, s0), (7, (b0 + 8), f1, s1), (0, b2, f2, s2), (2, (b0 + 26), f3, s3)] h) (some (.int x.1)) (xw [(11, b0, f0, x.2.1), (7, (b0 + 8), f1, s1), (0, b2, f2, s2), (2, (b0 + 26), f3, x.2.2)] h) := fun x hx => a_meth (ini := false) (y := yX11_thing) (by decide +kernel) (fun q => by cases q) (fun _ => Nat.le_of_ble_eq_true rfl) (pX11_thing_w ho hq_1_0 s0 s1 s2 s3 a0 a1) x hx _ _ ⟨rfl, rfl⟩
end
