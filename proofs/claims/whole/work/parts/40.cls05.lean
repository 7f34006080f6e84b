section
variable {l : Launch} {n0 S0 : Nat} {h : aH} {b0 : Nat} {f0 f1 : Nat → Option Nat}
abbrev MX11_feed : aM := (cX11_feed, RX11, 6, (some .int), false)
def pX11_feed (s0 : RS) (s1 : RS) (a0 : Int32) (a1 : Int32) (a2 : Int32) (a3 : Int32) (a4 : Int32) : Option (Int32 × RS) :=
  (pX8_hasRoom s1 (20 : Int32)).bind fun x1 =>
  if x1 = true then
    (pX8_addBytes s1 a0).bind fun x2 =>
    (pX8_addBytes x2 a1).bind fun x3 =>
    (pX8_addBytes x3 a2).bind fun x4 =>
    (pX8_addBytes x4 a3).bind fun x5 =>
    (pX8_addBytes x5 a4).bind fun x6 =>
    some ((x6.1 2), x6)
  else
    some ((-1 : Int32), s1)
theorem pX11_feed_w (ho : xok [(11, b0), (8, (b0 + 2))] h.2.1) (s0 : RS) (s1 : RS) (a0 : Int32) (a1 : Int32) (a2 : Int32) (a3 : Int32) (a4 : Int32) : aS l 1 MX11_feed n0 S0 (oΦ (fun (x : Int32 × RS) => ((some (.int x.1)), xw [(11, b0, f0, s0), (8, (b0 + 2), f1, x.2)] h))) 0 [(0, .ref b0), (1, .int a0), (2, .int a1), (3, .int a2), (4, .int a3), (5, .int a4)] [] (xw [(11, b0, f0, s0), (8, (b0 + 2), f1, s1)] h) (pX11_feed s0 s1 a0 a1 a2 a3 a4) := by
  unfold pX11_feed
  refine s_aload_n (pc := 0) 0 dX11_feed_0 rfl ?_
  refine xg_X11_18 0 ho rfl (pc := 1) dX11_feed_1 rfl ?_
  refine s_bipush (v := 20) (pc := 4) dX11_feed_4 (by decide) ?_
  refine x_callV (M := MX11_feed) (L := [(11, b0, f0, s0), (8, (b0 + 2), f1, s1)]) (h := h) (j := 1) (As := [.int 20]) (st := []) (A := fun (x : Bool) => some (.int (b2i x))) (Lc := [(8, (b0 + 2), f1, s1)]) (Lr := fun (x : Bool) => [(8, (b0 + 2), f1, s1)]) (L2 := fun (x : Bool) => [(11, b0, f0, s0), (8, (b0 + 2), f1, s1)]) cv_X11_138 (by decide) (pc := 6) dX11_feed_6 ho rfl xc0_8 rfl rfl (Nat.le_of_ble_eq_true rfl) (xovs (L := [(11, b0, f0, s0), (8, (b0 + 2), f1, s1)]) (h := h) [(1, (8, (b0 + 2), f1, s1))] ho ⟨rfl, trivial⟩).1 (fun x => (xovs (L := [(11, b0, f0, s0), (8, (b0 + 2), f1, s1)]) (h := h) [(1, (8, (b0 + 2), f1, s1))] ho ⟨rfl, trivial⟩).1) (fun x hx => pX8_hasRoom_ok (h := xw [(11, b0, f0, s0), (8, (b0 + 2), f1, s1)] h) (xok_sub ho [1] rfl (by decide)) s1 (20 : Int32) x hx) rfl (fun x1 _ => ?_)
  refine s_if_neB (tgt := 14) (pc := 9) dX11_feed_9 (by decide) (fun _ => ?_) (fun _ => ?_)
  · refine s_aload_n (pc := 14) 0 dX11_feed_14 rfl ?_
    refine xg_X11_18 0 ho rfl (pc := 15) dX11_feed_15 rfl ?_
    refine s_iload_n (pc := 18) 1 dX11_feed_18 rfl ?_
    refine x_callV (M := MX11_feed) (L := [(11, b0, f0, s0), (8, (b0 + 2), f1, s1)]) (h := h) (j := 1) (As := [.int a0]) (st := []) (A := fun (x : RS) => none) (Lc := [(8, (b0 + 2), f1, s1)]) (Lr := fun (x : RS) => [(8, (b0 + 2), f1, x)]) (L2 := fun (x : RS) => [(11, b0, f0, s0), (8, (b0 + 2), f1, x)]) cv_X11_141 (by decide) (pc := 19) dX11_feed_19 ho rfl xc0_8 rfl rfl (Nat.le_of_ble_eq_true rfl) (xovs (L := [(11, b0, f0, s0), (8, (b0 + 2), f1, s1)]) (h := h) [(1, (8, (b0 + 2), f1, s1))] ho ⟨rfl, trivial⟩).1 (fun x => (xovs (L := [(11, b0, f0, s0), (8, (b0 + 2), f1, s1)]) (h := h) [(1, (8, (b0 + 2), f1, x))] ho ⟨rfl, trivial⟩).1) (fun x hx => pX8_addBytes_ok (h := xw [(11, b0, f0, s0), (8, (b0 + 2), f1, s1)] h) (xok_sub ho [1] rfl (by decide)) s1 a0 x hx) rfl (fun x2 _ => ?_)
    refine s_aload_n (pc := 22) 0 dX11_feed_22 rfl ?_
    refine xg_X11_18 0 ho rfl (pc := 23) dX11_feed_23 rfl ?_
    refine s_iload_n (pc := 26) 2 dX11_feed_26 rfl ?_
    refine x_callV (M := MX11_feed) (L := [(11, b0, f0, s0), (8, (b0 + 2), f1, x2)]) (h := h) (j := 1) (As := [.int a1]) (st := []) (A := fun (x : RS) => none) (Lc := [(8, (b0 + 2), f1, x2)]) (Lr := fun (x : RS) => [(8, (b0 + 2), f1, x)]) (L2 := fun (x : RS) => [(11, b0, f0, s0), (8, (b0 + 2), f1, x)]) cv_X11_141 (by decide) (pc := 27) dX11_feed_27 ho rfl xc0_8 rfl rfl (Nat.le_of_ble_eq_true rfl) (xovs (L := [(11, b0, f0, s0), (8, (b0 + 2), f1, x2)]) (h := h) [(1, (8, (b0 + 2), f1, x2))] ho ⟨rfl, trivial⟩).1 (fun x => (xovs (L := [(11, b0, f0, s0), (8, (b0 + 2), f1, x2)]) (h := h) [(1, (8, (b0 + 2), f1, x))] ho ⟨rfl, trivial⟩).1) (fun x hx => pX8_addBytes_ok (h := xw [(11, b0, f0, s0), (8, (b0 + 2), f1, x2)] h) (xok_sub ho [1] rfl (by decide)) x2 a1 x hx) rfl (fun x3 _ => ?_)
    refine s_aload_n (pc := 30) 0 dX11_feed_30 rfl ?_
    refine xg_X11_18 0 ho rfl (pc := 31) dX11_feed_31 rfl ?_
    refine s_iload_n (pc := 34) 3 dX11_feed_34 rfl ?_
    refine x_callV (M := MX11_feed) (L := [(11, b0, f0, s0), (8, (b0 + 2), f1, x3)]) (h := h) (j := 1) (As := [.int a2]) (st := []) (A := fun (x : RS) => none) (Lc := [(8, (b0 + 2), f1, x3)]) (Lr := fun (x : RS) => [(8, (b0 + 2), f1, x)]) (L2 := fun (x : RS) => [(11, b0, f0, s0), (8, (b0 + 2), f1, x)]) cv_X11_141 (by decide) (pc := 35) dX11_feed_35 ho rfl xc0_8 rfl rfl (Nat.le_of_ble_eq_true rfl) (xovs (L := [(11, b0, f0, s0), (8, (b0 + 2), f1, x3)]) (h := h) [(1, (8, (b0 + 2), f1, x3))] ho ⟨rfl, trivial⟩).1 (fun x => (xovs (L := [(11, b0, f0, s0), (8, (b0 + 2), f1, x3)]) (h := h) [(1, (8, (b0 + 2), f1, x))] ho ⟨rfl, trivial⟩).1) (fun x hx => pX8_addBytes_ok (h := xw [(11, b0, f0, s0), (8, (b0 + 2), f1, x3)] h) (xok_sub ho [1] rfl (by decide)) x3 a2 x hx) rfl (fun x4 _ => ?_)
    refine s_aload_n (pc := 38) 0 dX11_feed_38 rfl ?_
    refine xg_X11_18 0 ho rfl (pc := 39) dX11_feed_39 rfl ?_
    refine s_iload (pc := 42) 4 dX11_feed_42 rfl ?_
    refine x_callV (M := MX11_feed) (L := [(11, b0, f0, s0), (8, (b0 + 2), f1, x4)]) (h := h) (j := 1) (As := [.int a3]) (st := []) (A := fun (x : RS) => none) (Lc := [(8, (b0 + 2), f1, x4)]) (Lr := fun (x : RS) => [(8, (b0 + 2), f1, x)]) (L2 := fun (x : RS) => [(11, b0, f0, s0), (8, (b0 + 2), f1, x)]) cv_X11_141 (by decide) (pc := 44) dX11_feed_44 ho rfl xc0_8 rfl rfl (Nat.le_of_ble_eq_true rfl) (xovs (L := [(11, b0, f0, s0), (8, (b0 + 2), f1, x4)]) (h := h) [(1, (8, (b0 + 2), f1, x4))] ho ⟨rfl, trivial⟩).1 (fun x => (xovs (L := [(11, b0, f0, s0), (8, (b0 + 2), f1, x4)]) (h := h) [(1, (8, (b0 + 2), f1, x))] ho ⟨rfl, trivial⟩).1) (fun x hx => pX8_addBytes_ok (h := xw [(11, b0, f0, s0), (8, (b0 + 2), f1, x4)] h) (xok_sub ho [1] rfl (by decide)) x4 a3 x hx) rfl (fun x5 _ => ?_)
    refine s_aload_n (pc := 47) 0 dX11_feed_47 rfl ?_
    refine xg_X11_18 0 ho rfl (pc := 48) dX11_feed_48 rfl ?_
    refine s_iload (pc := 51) 5 dX11_feed_51 rfl ?_
    refine x_callV (M := MX11_feed) (L := [(11, b0, f0, s0), (8, (b0 + 2), f1, x5)]) (h := h) (j := 1) (As := [.int a4]) (st := []) (A := fun (x : RS) => none) (Lc := [(8, (b0 + 2), f1, x5)]) (Lr := fun (x : RS) => [(8, (b0 + 2), f1, x)]) (L2 := fun (x : RS) => [(11, b0, f0, s0), (8, (b0 + 2), f1, x)]) cv_X11_141 (by decide) (pc := 53) dX11_feed_53 ho rfl xc0_8 rfl rfl (Nat.le_of_ble_eq_true rfl) (xovs (L := [(11, b0, f0, s0), (8, (b0 + 2), f1, x5)]) (h := h) [(1, (8, (b0 + 2), f1, x5))] ho ⟨rfl, trivial⟩).1 (fun x => (xovs (L := [(11, b0, f0, s0), (8, (b0 + 2), f1, x5)]) (h := h) [(1, (8, (b0 + 2), f1, x))] ho ⟨rfl, trivial⟩).1) (fun x hx => pX8_addBytes_ok (h := xw [(11, b0, f0, s0), (8, (b0 + 2), f1, x5)] h) (xok_sub ho [1] rfl (by decide)) x5 a4 x hx) rfl (fun x6 _ => ?_)
    refine s_aload_n (pc := 56) 0 dX11_feed_56 rfl ?_
    refine xg_X11_18 0 ho rfl (pc := 57) dX11_feed_57 rfl ?_
    refine xg_X11_145 1 ho rfl (pc := 60) dX11_feed_60 rfl ?_
    exact s_iret (pc := 63) dX11_feed_63 rfl (fun _ _ q => q)
  · refine s_iconst (v := (-1)) (pc := 12) dX11_feed_12 (by decide) ?_
    exact s_iret (pc := 13) dX11_feed_13 rfl (fun _ _ q => q)
theorem pX11_feed_ok (ho : xok [(11, b0), (8, (b0 + 2))] h.2.1) (s0 : RS) (s1 : RS) (a0 : Int32) (a1 : Int32) (a2 : Int32) (a3 : Int32) (a4 : Int32) : ∀ x, pX11_feed s0 s1 a0 a1 a2 a3 a4 = some x → aMet l 1 yX11_feed cX11_feed 6 (some .int) [.ref b0, .int a0, .int a1, .int a2, .int a3, .int a4] (xw [(11, b0, f0, s0), (8, (b0 + 2), f1, s1)] h) (some (.int x.1)) (xw [(11, b0, f0, s0), (8, (b0 + 2), f1, x.2)] h) := fun x hx => a_meth (ini := false) (y := yX11_feed) (by decide +kernel) (fun q => by cases q) (fun _ => Nat.le_of_ble_eq_true rfl) (pX11_feed_w ho s0 s1 a0 a1 a2 a3 a4) x hx _ _ ⟨rfl, rfl⟩
end
section
variable {l : Launch} {n0 S0 : Nat} {h : aH} {b0 : Nat} {f0 f1 : Nat → Option Nat}
abbrev MX11_fault : aM := (cX11_fault, RX11, 2, (some .int), false)
def pX11_fault (s0 : RS) (s1 : RS) (a0 : Int32) : Option Int32 :=
  if a0 = 0 then
    some (s1.1 3)
  else
    if a0 = (1 : Int32) then
      some (s1.1 4)
    else
      some (-1 : Int32)
theorem pX11_fault_w (ho : xok [(11, b0), (8, (b0 + 2))] h.2.1) (s0 : RS) (s1 : RS) (a0 : Int32) : aS l 0 MX11_fault n0 S0 (oΦ (fun (x : Int32) => ((some (.int x)), xw [(11, b0, f0, s0), (8, (b0 + 2), f1, s1)] h))) 0 [(0, .ref b0), (1, .int a0)] [] (xw [(11, b0, f0, s0), (8, (b0 + 2), f1, s1)] h) (pX11_fault s0 s1 a0) := by
  unfold pX11_fault
  refine s_iload_n (pc := 0) 1 dX11_fault_0 rfl ?_
  refine s_if_ne (tgt := 12) (pc := 1) dX11_fault_1 (by decide) (fun _ => ?_) (fun _ => ?_)
  · refine s_aload_n (pc := 4) 0 dX11_fault_4 rfl ?_
    refine xg_X11_18 0 ho rfl (pc := 5) dX11_fault_5 rfl ?_
    refine xg_X11_157 1 ho rfl (pc := 8) dX11_fault_8 rfl ?_
    exact s_iret (pc := 11) dX11_fault_11 rfl (fun _ _ q => q)
  · refine s_iload_n (pc := 12) 1 dX11_fault_12 rfl ?_
    refine s_iconst (v := 1) (pc := 13) dX11_fault_13 (by decide) ?_
    refine s_icmp_ne (tgt := 27) (pc := 14) dX11_fault_14 (by decide) (fun _ => ?_) (fun _ => ?_)
    · refine s_aload_n (pc := 17) 0 dX11_fault_17 rfl ?_
      refine xg_X11_18 0 ho rfl (pc := 18) dX11_fault_18 rfl ?_
      refine xg_X11_194 1 ho rfl (pc := 21) dX11_fault_21 rfl ?_
      refine s_goto (tgt := 28) (pc := 24) dX11_fault_24 (by decide) ?_
      exact s_iret (pc := 28) dX11_fault_28 rfl (fun _ _ q => q)
    · refine s_iconst (v := (-1)) (pc := 27) dX11_fault_27 (by decide) ?_
      exact s_iret (pc := 28) dX11_fault_28 rfl (fun _ _ q => q)
theorem pX11_fault_ok (ho : xok [(11, b0), (8, (b0 + 2))] h.2.1) (s0 : RS) (s1 : RS) (a0 : Int32) : ∀ x, pX11_fault s0 s1 a0 = some x → aMet l 0 yX11_fault cX11_fault 2 (some .int) [.ref b0, .int a0] (xw [(11, b0, f0, s0), (8, (b0 + 2), f1, s1)] h) (some (.int x)) (xw [(11, b0, f0, s0), (8, (b0 + 2), f1, s1)] h) := fun x hx => a_meth (ini := false) (y := yX11_fault) (by decide +kernel) (fun q => by cases q) (fun _ => Nat.le_of_ble_eq_true rfl) (pX11_fault_w ho s0 s1 a0) x hx _ _ ⟨rfl, rfl⟩
end
section
variable {l : Launch} {n0 S0 : Nat} {h : aH} {b0 b2 : Nat} {f0 f1 f2 : Nat → Option Nat}
abbrev MX11_many : aM := (cX11_many, RX11, 3, (some .int), false)
def pX11_many (s0 : RS) (s1 : RS) (s2 : RS) (a0 : Int32) : Option (Int32 × RS) :=
  if a0 = 0 then
    (pX11_tell s0 (s2.1 1)).bind fun x1 =>
    some (x1.1, x1.2)
  else
    if a0 = 1 then
      (pX11_tell s0 (s2.1 0)).bind fun x2 =>
      some (x2.1, x2.2)
    else
      if a0 = 2 then
        (pX0_allOfKind s2 (0 : Int32)).bind fun x3 =>
        (pJ6_bitCount_0f7a4 x3).bind fun x4 =>
        (pX11_tell s0 x4).bind fun x5 =>
        some (x5.1, x5.2)
      else
        if a0 = 3 then
          (pX0_countFoes s2).bind fun x6 =>
          (pX11_tell s0 x6).bind fun x7 =>
          some (x7.1, x7.2)
        else
          (pX11_refuse s0 (5 : Int32)).bind fun x8 =>
          some (x8.1, x8.2)
theorem pX11_many_w (ho : xok [(11, b0), (7, (b0 + 8)), (0, b2)] h.2.1) (hq_1_0 : f1 0 = some b2) (s0 : RS) (s1 : RS) (s2 : RS) (a0 : Int32) : aS l 2 MX11_many n0 S0 (oΦ (fun (x : Int32 × RS) => ((some (.int x.1)), xw [(11, b0, f0, x.2), (7, (b0 + 8), f1, s1), (0, b2, f2, s2)] h))) 0 [(0, .ref b0), (1, .int a0)] [] (xw [(11, b0, f0, s0), (7, (b0 + 8), f1, s1), (0, b2, f2, s2)] h) (pX11_many s0 s1 s2 a0) := by
  unfold pX11_many
  refine s_aload_n (pc := 0) 0 dX11_many_0 rfl ?_
  refine xg_X11_25 0 ho rfl (pc := 1) dX11_many_1 rfl ?_
  refine xg_X11_174 1 ho rfl (pc := 4) dX11_many_4 rfl hq_1_0 ?_
  refine s_astore_n (lv' := [(2, .ref b2), (0, .ref b0), (1, .int a0)]) (pc := 7) dX11_many_7 (by decide) rfl ?_
  refine s_iload_n (pc := 8) 2 dX11_many_8 rfl ?_
  refine s_case (c := a0 = 0) (fun c0 => ?_) (fun n9 => ?_)
  · refine s_tabIn (tgt := 40) (off := 31) (pc := 9) dX11_many_9 (by rw [c0]; decide) (by rw [c0]; decide) (by rw [c0]; rfl) (by decide) ?_
    refine s_aload_n (pc := 40) 1 dX11_many_40 rfl ?_
    refine s_aload_n (pc := 41) 0 dX11_many_41 rfl ?_
    refine xg_X11_164 2 ho rfl (pc := 42) dX11_many_42 rfl ?_
    refine x_callV (M := MX11_many) (L := [(11, b0, f0, s0), (7, (b0 + 8), f1, s1), (0, b2, f2, s2)]) (h := h) (j := 0) (As := [.int (s2.1 1)]) (st := []) (A := fun (x : Int32 × RS) => some (.int x.1)) (Lc := [(11, b0, f0, s0)]) (Lr := fun (x : Int32 × RS) => [(11, b0, f0, x.2)]) (L2 := fun (x : Int32 × RS) => [(11, b0, f0, x.2), (7, (b0 + 8), f1, s1), (0, b2, f2, s2)]) cv_X11_169 (by decide) (pc := 45) dX11_many_45 ho rfl xc0_11 rfl rfl (Nat.le_of_ble_eq_true rfl) (xovs (L := [(11, b0, f0, s0), (7, (b0 + 8), f1, s1), (0, b2, f2, s2)]) (h := h) [(0, (11, b0, f0, s0))] ho ⟨rfl, trivial⟩).1 (fun x => (xovs (L := [(11, b0, f0, s0), (7, (b0 + 8), f1, s1), (0, b2, f2, s2)]) (h := h) [(0, (11, b0, f0, x.2))] ho ⟨rfl, trivial⟩).1) (fun x hx => pX11_tell_ok (h := xw [(11, b0, f0, s0), (7, (b0 + 8), f1, s1), (0, b2, f2, s2)] h) (xok_sub ho [0] rfl (by decide)) s0 (s2.1 1) x hx) rfl (fun x1 _ => ?_)
    exact s_iret (pc := 48) dX11_many_48 rfl (fun _ _ q => q)
  · refine s_case (c := a0 = 1) (fun c0 => ?_) (fun n10 => ?_)
    · refine s_tabIn (tgt := 49) (off := 40) (pc := 9) dX11_many_9 (by rw [c0]; decide) (by rw [c0]; decide) (by rw [c0]; rfl) (by decide) ?_
      refine s_aload_n (pc := 49) 1 dX11_many_49 rfl ?_
      refine s_aload_n (pc := 50) 0 dX11_many_50 rfl ?_
      refine xg_X11_197 2 ho rfl (pc := 51) dX11_many_51 rfl ?_
      refine x_callV (M := MX11_many) (L := [(11, b0, f0, s0), (7, (b0 + 8), f1, s1), (0, b2, f2, s2)]) (h := h) (j := 0) (As := [.int (s2.1 0)]) (st := []) (A := fun (x : Int32 × RS) => some (.int x.1)) (Lc := [(11, b0, f0, s0)]) (Lr := fun (x : Int32 × RS) => [(11, b0, f0, x.2)]) (L2 := fun (x : Int32 × RS) => [(11, b0, f0, x.2), (7, (b0 + 8), f1, s1), (0, b2, f2, s2)]) cv_X11_169 (by decide) (pc := 54) dX11_many_54 ho rfl xc0_11 rfl rfl (Nat.le_of_ble_eq_true rfl) (xovs (L := [(11, b0, f0, s0), (7, (b0 + 8), f1, s1), (0, b2, f2, s2)]) (h := h) [(0, (11, b0, f0, s0))] ho ⟨rfl, trivial⟩).1 (fun x => (xovs (L := [(11, b0, f0, s0), (7, (b0 + 8), f1, s1), (0, b2, f2, s2)]) (h := h) [(0, (11, b0, f0, x.2))] ho ⟨rfl, trivial⟩).1) (fun x hx => pX11_tell_ok (h := xw [(11, b0, f0, s0), (7, (b0 + 8), f1, s1), (0, b2, f2, s2)] h) (xok_sub ho [0] rfl (by decide)) s0 (s2.1 0) x hx) rfl (fun x2 _ => ?_)
      exact s_iret (pc := 57) dX11_many_57 rfl (fun _ _ q => q)
    · refine s_case (c := a0 = 2) (fun c0 => ?_) (fun n11 => ?_)
      · refine s_tabIn (tgt := 58) (off := 49) (pc := 9) dX11_many_9 (by rw [c0]; decide) (by rw [c0]; decide) (by rw [c0]; rfl) (by decide) ?_
        refine s_aload_n (pc := 58) 1 dX11_many_58 rfl ?_
        refine s_aload_n (pc := 59) 0 dX11_many_59 rfl ?_
        refine s_iconst (v := 0) (pc := 60) dX11_many_60 (by decide) ?_
        refine x_callV (M := MX11_many) (L := [(11, b0, f0, s0), (7, (b0 + 8), f1, s1), (0, b2, f2, s2)]) (h := h) (j := 2) (As := [.int 0]) (st := [.ref b0]) (A := fun (x : Int32) => some (.int x)) (Lc := [(0, b2, f2, s2)]) (Lr := fun (x : Int32) => [(0, b2, f2, s2)]) (L2 := fun (x : Int32) => [(11, b0, f0, s0), (7, (b0 + 8), f1, s1), (0, b2, f2, s2)]) cv_X11_200 (by decide) (pc := 61) dX11_many_61 ho rfl xc0_0 rfl rfl (Nat.le_of_ble_eq_true rfl) (xovs (L := [(11, b0, f0, s0), (7, (b0 + 8), f1, s1), (0, b2, f2, s2)]) (h := h) [(2, (0, b2, f2, s2))] ho ⟨rfl, trivial⟩).1 (fun x => (xovs (L := [(11, b0, f0, s0), (7, (b0 + 8), f1, s1), (0, b2, f2, s2)]) (h := h) [(2, (0, b2, f2, s2))] ho ⟨rfl, trivial⟩).1) (fun x hx => pX0_allOfKind_ok (h := xw [(11, b0, f0, s0), (7, (b0 + 8), f1, s1), (0, b2, f2, s2)] h) (xok_sub ho [2] rfl (by decide)) s2 (0 : Int32) x hx) rfl (fun x3 _ => ?_)
        refine s_callS (M := MX11_many) (As := [.int x3]) (st := [.ref b0]) (Ψ := fun (x : Int32) => (some (.int x), xw [(11, b0, f0, s0), (7, (b0 + 8), f1, s1), (0, b2, f2, s2)] h)) cs_X11_203 (by decide) (pc := 64) dX11_many_64 rfl (Nat.le_of_ble_eq_true rfl) (fun x hx => pJ6_bitCount_0f7a4_ok x3 x hx) rfl (fun x4 _ => ?_)
        refine x_callV (M := MX11_many) (L := [(11, b0, f0, s0), (7, (b0 + 8), f1, s1), (0, b2, f2, s2)]) (h := h) (j := 0) (As := [.int x4]) (st := []) (A := fun (x : Int32 × RS) => some (.int x.1)) (Lc := [(11, b0, f0, s0)]) (Lr := fun (x : Int32 × RS) => [(11, b0, f0, x.2)]) (L2 := fun (x : Int32 × RS) => [(11, b0, f0, x.2), (7, (b0 + 8), f1, s1), (0, b2, f2, s2)]) cv_X11_169 (by decide) (pc := 67) dX11_many_67 ho rfl xc0_11 rfl rfl (Nat.le_of_ble_eq_true rfl) (xovs (L := [(11, b0, f0, s0), (7, (b0 + 8), f1, s1), (0, b2, f2, s2)]) (h := h) [(0, (11, b0, f0, s0))] ho ⟨rfl, trivial⟩).1 (fun x => (xovs (L := [(11, b0, f0, s0), (7, (b0 + 8), f1, s1), (0, b2, f2, s2)]) (h := h) [(0, (11, b0, f0, x.2))] ho ⟨rfl, trivial⟩).1) (fun x hx => pX11_tell_ok (h := xw [(11, b0, f0, s0), (7, (b0 + 8), f1, s1), (0, b2, f2, s2)] h) (xok_sub ho [0] rfl (by decide)) s0 x4 x hx) rfl (fun x5 _ => ?_)
        exact s_iret (pc := 70) dX11_many_70 rfl (fun _ _ q => q)
      · refine s_case (c := a0 = 3) (fun c0 => ?_) (fun n12 => ?_)
        · refine s_tabIn (tgt := 71) (off := 62) (pc := 9) dX11_many_9 (by rw [c0]; decide) (by rw [c0]; decide) (by rw [c0]; rfl) (by decide) ?_
          refine s_aload_n (pc := 71) 1 dX11_many_71 rfl ?_
          refine s_aload_n (pc := 72) 0 dX11_many_72 rfl ?_
          refine x_callV (M := MX11_many) (L := [(11, b0, f0, s0), (7, (b0 + 8), f1, s1), (0, b2, f2, s2)]) (h := h) (j := 2) (As := []) (st := [.ref b0]) (A := fun (x : Int32) => some (.int x)) (Lc := [(0, b2, f2, s2)]) (Lr := fun (x : Int32) => [(0, b2, f2, s2)]) (L2 := fun (x : Int32) => [(11, b0, f0, s0), (7, (b0 + 8), f1, s1), (0, b2, f2, s2)]) cv_X11_208 (by decide) (pc := 73) dX11_many_73 ho rfl xc0_0 rfl rfl (Nat.le_of_ble_eq_true rfl) (xovs (L := [(11, b0, f0, s0), (7, (b0 + 8), f1, s1), (0, b2, f2, s2)]) (h := h) [(2, (0, b2, f2, s2))] ho ⟨rfl, trivial⟩).1 (fun x => (xovs (L := [(11, b0, f0, s0), (7, (b0 + 8), f1, s1), (0, b2, f2, s2)]) (h := h) [(2, (0, b2, f2, s2))] ho ⟨rfl, trivial⟩).1) (fun x hx => pX0_countFoes_ok (h := xw [(11, b0, f0, s0), (7, (b0 + 8), f1, s1), (0, b2, f2, s2)] h) (xok_sub ho [2] rfl (by decide)) s2 x hx) rfl (fun x6 _ => ?_)
          refine x_callV (M := MX11_many) (L := [(11, b0, f0, s0), (7, (b0 + 8), f1, s1), (0, b2, f2, s2)]) (h := h) (j := 0) (As := [.int x6]) (st := []) (A := fun (x : Int32 × RS) => some (.int x.1)) (Lc := [(11, b0, f0, s0)]) (Lr := fun (x : Int32 × RS) => [(11, b0, f0, x.2)]) (L2 := fun (x : Int32 × RS) => [(11, b0, f0, x.2), (7, (b0 + 8), f1, s1), (0, b2, f2, s2)]) cv_X11_169 (by decide) (pc := 76) dX11_many_76 ho rfl xc0_11 rfl rfl (Nat.le_of_ble_eq_true rfl) (xovs (L := [(11, b0, f0, s0), (7, (b0 + 8), f1, s1), (0, b2, f2, s2)]) (h := h) [(0, (11, b0, f0, s0))] ho ⟨rfl, trivial⟩).1 (fun x => (xovs (L := [(11, b0, f0, s0), (7, (b0 + 8), f1, s1), (0, b2, f2, s2)]) (h := h) [(0, (11, b0, f0, x.2))] ho ⟨rfl, trivial⟩).1) (fun x hx => pX11_tell_ok (h := xw [(11, b0, f0, s0), (7, (b0 + 8), f1, s1), (0, b2, f2, s2)] h) (xok_sub ho [0] rfl (by decide)) s0 x6 x hx) rfl (fun x7 _ => ?_)
          exact s_iret (pc := 79) dX11_many_79 rfl (fun _ _ q => q)
        · refine s_tabOut (tgt := 80) (pc := 9) dX11_many_9 (sw_out (fun i h1 h2 => by
            have hi : i = 0 ∨ i = 1 ∨ i = 2 ∨ i = 3 := by omega
            rcases hi with rfl | rfl | rfl | rfl
            · exact fun q => n9 (q.trans (by decide))
            · exact fun q => n10 (q.trans (by decide))
            · exact fun q => n11 (q.trans (by decide))
            · exact fun q => n12 (q.trans (by decide)))) (by decide) ?_
          refine s_aload_n (pc := 80) 1 dX11_many_80 rfl ?_
          refine s_iconst (v := 5) (pc := 81) dX11_many_81 (by decide) ?_
          refine x_callV (M := MX11_many) (L := [(11, b0, f0, s0), (7, (b0 + 8), f1, s1), (0, b2, f2, s2)]) (h := h) (j := 0) (As := [.int 5]) (st := []) (A := fun (x : Int32 × RS) => some (.int x.1)) (Lc := [(11, b0, f0, s0)]) (Lr := fun (x : Int32 × RS) => [(11, b0, f0, x.2)]) (L2 := fun (x : Int32 × RS) => [(11, b0, f0, x.2), (7, (b0 + 8), f1, s1), (0, b2, f2, s2)]) cv_X11_113 (by decide) (pc := 82) dX11_many_82 ho rfl xc0_11 rfl rfl (Nat.le_of_ble_eq_true rfl) (xovs (L := [(11, b0, f0, s0), (7, (b0 + 8), f1, s1), (0, b2, f2, s2)]) (h := h) [(0, (11, b0, f0, s0))] ho ⟨rfl, trivial⟩).1 (fun x => (xovs (L := [(11, b0, f0, s0), (7, (b0 + 8), f1, s1), (0, b2, f2, s2)]) (h := h) [(0, (11, b0, f0, x.2))] ho ⟨rfl, trivial⟩).1) (fun x hx => pX11_refuse_ok (h := xw [(11, b0, f0, s0), (7, (b0 + 8), f1, s1), (0, b2, f2, s2)] h) (xok_sub ho [0] rfl (by decide)) s0 (5 : Int32) x hx) rfl (fun x8 _ => ?_)
          exact s_iret (pc := 85) dX11_many_85 rfl (fun _ _ q => q)
theorem pX11_many_ok (ho : xok [(11, b0), (7, (b0 + 8)), (0, b2)] h.2.1) (hq_1_0 : f1 0 = some b2) (s0 : RS) (s1 : RS) (s2 : RS) (a0 : Int32) : ∀ x, pX11_many s0 s1 s2 a0 = some x → aMet l 2 yX11_many cX11_many 3 (some .int) [.ref b0, .int a0] (xw [(11, b0, f0, s0), (7, (b0 + 8), f1, s1), (0, b2, f2, s2)] h) (some (.int x.1)) (xw [(11, b0, f0, x.2), (7, (b0 + 8), f1, s1), (0, b2, f2, s2)] h) := fun x hx => a_meth (ini := false) (y := yX11_many) (by decide +kernel) (fun q => by cases q) (fun _ => Nat.le_of_ble_eq_true rfl) (pX11_many_w ho hq_1_0 s0 s1 s2 a0) x hx _ _ ⟨rfl, rfl⟩
end
section
variable {l : Launch} {n0 S0 : Nat} {h : aH} {b0 b2 : Nat} {f0 f1 f2 : Nat → Option Nat}
abbrev MX11_change : aM := (cX11_change, RX11, 4, (some .int), false)
def pX11_change (s0 : RS) (s1 : RS) (s2 : RS) (a0 : Int32) (a1 : Int32) : Option (Int32 × RS) :=
  (pX0_isChange s2 a0).bind fun x1 =>
  if x1 = true then
    if a1 = 0 then
      g_in a0 16 (
      (pX11_tell s0 (s2.2.2.1 4 a0.toNatClampNeg)).bind fun x2 =>
      some (x2.1, x2.2))
    else
      if a1 = 1 then
        g_in a0 16 (
        (pX11_tell s0 (s2.2.2.1 5 a0.toNatClampNeg)).bind fun x3 =>
        some (x3.1, x3.2))
      else
        if a1 = 2 then
          (pX0_isPut s2 a0).bind fun x4 =>
          if x4 = true then
            g_in a0 16 (
            (pX11_tell s0 (s2.2.2.1 6 a0.toNatClampNeg)).bind fun x6 =>
            some (x6.1, x6.2))
          else
            (pX11_refuse s0 (8 : Int32)).bind fun x5 =>
            some (x5.1, x5.2)
        else
          if a1 = 3 then
            g_in a0 16 (
            (pX11_tell s0 (s2.2.2.1 7 a0.toNatClampNeg)).bind fun x7 =>
            some (x7.1, x7.2))
          else
            if a1 = 4 then
              g_in a0 16 (
              (pX11_tell s0 (s2.2.2.1 8 a0.toNatClampNeg)).bind fun x8 =>
              some (x8.1, x8.2))
            else
              (pX11_refuse s0 (5 : Int32)).bind fun x9 =>
              some (x9.1, x9.2)
  else
    (pX11_refuse s0 (2 : Int32)).bind fun x15 =>
    some (x15.1, x15.2)
theorem pX11_change_w (ho : xok [(11, b0), (7, (b0 + 8)), (0, b2)] h.2.1) (hq_1_0 : f1 0 = some b2) (s0 : RS) (s1 : RS) (s2 : RS) (a0 : Int32) (a1 : Int32) : aS l 2 MX11_change n0 S0 (oΦ (fun (x : Int32 × RS) => ((some (.int x.1)), xw [(11, b0, f0, x.2), (7, (b0 + 8), f1, s1), (0, b2, f2, s2)] h))) 0 [(0, .ref b0), (1, .int a0), (2, .int a1)] [] (xw [(11, b0, f0, s0), (7, (b0 + 8), f1, s1), (0, b2, f2, s2)] h) (pX11_change s0 s1 s2 a0 a1) := by
  unfold pX11_change
  refine s_aload_n (pc := 0) 0 dX11_change_0 rfl ?_
  refine xg_X11_25 0 ho rfl (pc := 1) dX11_change_1 rfl ?_
  refine xg_X11_174 1 ho rfl (pc := 4) dX11_change_4 rfl hq_1_0 ?_
  refine s_astore_n (lv' := [(3, .ref b2), (0, .ref b0), (1, .int a0), (2, .int a1)]) (pc := 7) dX11_change_7 (by decide) rfl ?_
  refine s_aload_n (pc := 8) 0 dX11_change_8 rfl ?_
  refine s_iload_n (pc := 9) 2 dX11_change_9 rfl ?_
  refine x_callV (M := MX11_change) (L := [(11, b0, f0, s0), (7, (b0 + 8), f1, s1), (0, b2, f2, s2)]) (h := h) (j := 2) (As := [.int a0]) (st := []) (A := fun (x : Bool) => some (.int (b2i x))) (Lc := [(0, b2, f2, s2)]) (Lr := fun (x : Bool) => [(0, b2, f2, s2)]) (L2 := fun (x : Bool) => [(11, b0, f0, s0), (7, (b0 + 8), f1, s1), (0, b2, f2, s2)]) cv_X11_212 (by decide) (pc := 10) dX11_change_10 ho rfl xc0_0 rfl rfl (Nat.le_of_ble_eq_true rfl) (xovs (L := [(11, b0, f0, s0), (7, (b0 + 8), f1, s1), (0, b2, f2, s2)]) (h := h) [(2, (0, b2, f2, s2))] ho ⟨rfl, trivial⟩).1 (fun x => (xovs (L := [(11, b0, f0, s0), (7, (b0 + 8), f1, s1), (0, b2, f2, s2)]) (h := h) [(2, (0, b2, f2, s2))] ho ⟨rfl, trivial⟩).1) (fun x hx => pX0_isChange_ok (h := xw [(11, b0, f0, s0), (7, (b0 + 8), f1, s1), (0, b2, f2, s2)] h) (xok_sub ho [2] rfl (by decide)) s2 a0 x hx) rfl (fun x1 _ => ?_)
  refine s_if_neB (tgt := 22) (pc := 13) dX11_change_13 (by decide) (fun _ => ?_) (fun _ => ?_)
  · refine s_iload_n (pc := 22) 3 dX11_change_22 rfl ?_
    refine s_case (c := a1 = 0) (fun c0 => ?_) (fun n10 => ?_)
    · refine s_tabIn (tgt := 56) (off := 33) (pc := 23) dX11_change_23 (by rw [c0]; decide) (by rw [c0]; decide) (by rw [c0]; rfl) (by decide) ?_
      refine s_aload_n (pc := 56) 1 dX11_change_56 rfl ?_
      refine s_aload_n (pc := 57) 0 dX11_change_57 rfl ?_
      refine xg_X11_215 2 ho rfl (pc := 58) dX11_change_58 rfl ?_
      refine s_iload_n (pc := 61) 2 dX11_change_61 rfl ?_
      refine xl_0_4 2 ho rfl (pc := 62) dX11_change_62 ?_
      refine x_callV (M := MX11_change) (L := [(11, b0, f0, s0), (7, (b0 + 8), f1, s1), (0, b2, f2, s2)]) (h := h) (j := 0) (As := [.int (s2.2.2.1 4 a0.toNatClampNeg)]) (st := []) (A := fun (x : Int32 × RS) => some (.int x.1)) (Lc := [(11, b0, f0, s0)]) (Lr := fun (x : Int32 × RS) => [(11, b0, f0, x.2)]) (L2 := fun (x : Int32 × RS) => [(11, b0, f0, x.2), (7, (b0 + 8), f1, s1), (0, b2, f2, s2)]) cv_X11_169 (by decide) (pc := 63) dX11_change_63 ho rfl xc0_11 rfl rfl (Nat.le_of_ble_eq_true rfl) (xovs (L := [(11, b0, f0, s0), (7, (b0 + 8), f1, s1), (0, b2, f2, s2)]) (h := h) [(0, (11, b0, f0, s0))] ho ⟨rfl, trivial⟩).1 (fun x => (xovs (L := [(11, b0, f0, s0), (7, (b0 + 8), f1, s1), (0, b2, f2, s2)]) (h := h) [(0, (11, b0, f0, x.2))] ho ⟨rfl, trivial⟩).1) (fun x hx => pX11_tell_ok (h := xw [(11, b0, f0, s0), (7, (b0 + 8), f1, s1), (0, b2, f2, s2)] h) (xok_sub ho [0] rfl (by decide)) s0 (s2.2.2.1 4 a0.toNatClampNeg) x hx) rfl (fun x2 _ => ?_)
      exact s_iret (pc := 66) dX11_change_66 rfl (fun _ _ q => q)
    · refine s_case (c := a1 = 1) (fun c0 => ?_) (fun n11 => ?_)
      · refine s_tabIn (tgt := 67) (off := 44) (pc := 23) dX11_change_23 (by rw [c0]; decide) (by rw [c0]; decide) (by rw [c0]; rfl) (by decide) ?_
        refine s_aload_n (pc := 67) 1 dX11_change_67 rfl ?_
        refine s_aload_n (pc := 68) 0 dX11_change_68 rfl ?_
        refine xg_X11_218 2 ho rfl (pc := 69) dX11_change_69 rfl ?_
        refine s_iload_n (pc := 72) 2 dX11_change_72 rfl ?_
        refine xl_0_5 2 ho rfl (pc := 73) dX11_change_73 ?_
        refine x_callV (M := MX11_change) (L := [(11, b0, f0, s0), (7, (b0 + 8), f1, s1), (0, b2, f2, s2)]) (h := h) (j := 0) (As := [.int (s2.2.2.1 5 a0.toNatClampNeg)]) (st := []) (A := fun (x : Int32 × RS) => some (.int x.1)) (Lc := [(11, b0, f0, s0)]) (Lr := fun (x : Int32 × RS) => [(11, b0, f0, x.2)]) (L2 := fun (x : Int32 × RS) => [(11, b0, f0, x.2), (7, (b0 + 8), f1, s1), (0, b2, f2, s2)]) cv_X11_169 (by decide) (pc := 74) dX11_change_74 ho rfl xc0_11 rfl rfl (Nat.le_of_ble_eq_true rfl) (xovs (L := [(11, b0, f0, s0), (7, (b0 + 8), f1, s1), (0, b2, f2, s2)]) (h := h) [(0, (11, b0, f0, s0))] ho ⟨rfl, trivial⟩).1 (fun x => (xovs (L := [(11, b0, f0, s0), (7, (b0 + 8), f1, s1), (0, b2, f2, s2)]) (h := h) [(0, (11, b0, f0, x.2))] ho ⟨rfl, trivial⟩).1) (fun x hx => pX11_tell_ok (h := xw [(11, b0, f0, s0), (7, (b0 + 8), f1, s1), (0, b2, f2, s2)] h) (xok_sub ho [0] rfl (by decide)) s0 (s2.2.2.1 5 a0.toNatClampNeg) x hx) rfl (fun x3 _ => ?_)
        exact s_iret (pc := 77) dX11_change_77 rfl (fun _ _ q => q)
      · refine s_case (c := a1 = 2) (fun c0 => ?_) (fun n12 => ?_)
        · refine s_tabIn (tgt := 78) (off := 55) (pc := 23) dX11_change_23 (by rw [c0]; decide) (by rw [c0]; decide) (by rw [c0]; rfl) (by decide) ?_
          refine s_aload_n (pc := 78) 0 dX11_change_78 rfl ?_
          refine s_iload_n (pc := 79) 2 dX11_change_79 rfl ?_
          refine x_callV (M := MX11_change) (L := [(11, b0, f0, s0), (7, (b0 + 8), f1, s1), (0, b2, f2, s2)]) (h := h) (j := 2) (As := [.int a0]) (st := []) (A := fun (x : Bool) => some (.int (b2i x))) (Lc := [(0, b2, f2, s2)]) (Lr := fun (x : Bool) => [(0, b2, f2, s2)]) (L2 := fun (x : Bool) => [(11, b0, f0, s0), (7, (b0 + 8), f1, s1), (0, b2, f2, s2)]) cv_X11_220 (by decide) (pc := 80) dX11_change_80 ho rfl xc0_0 rfl rfl (Nat.le_of_ble_eq_true rfl) (xovs (L := [(11, b0, f0, s0), (7, (b0 + 8), f1, s1), (0, b2, f2, s2)]) (h := h) [(2, (0, b2, f2, s2))] ho ⟨rfl, trivial⟩).1 (fun x => (xovs (L := [(11, b0, f0, s0), (7, (b0 + 8), f1, s1), (0, b2, f2, s2)]) (h := h) [(2, (0, b2, f2, s2))] ho ⟨rfl, trivial⟩).1) (fun x hx => pX0_isPut_ok (h := xw [(11, b0, f0, s0), (7, (b0 + 8), f1, s1), (0, b2, f2, s2)] h) (xok_sub ho [2] rfl (by decide)) s2 a0 x hx) rfl (fun x4 _ => ?_)
          refine s_if_eqB (tgt := 99) (pc := 83) dX11_change_83 (by decide) (fun _ => ?_) (fun _ => ?_)
          · refine s_aload_n (pc := 86) 1 dX11_change_86 rfl ?_
            refine s_aload_n (pc := 87) 0 dX11_change_87 rfl ?_
            refine xg_X11_223 2 ho rfl (pc := 88) dX11_change_88 rfl ?_
            refine s_iload_n (pc := 91) 2 dX11_change_91 rfl ?_
            refine xl_0_6 2 ho rfl (pc := 92) dX11_change_92 ?_
            refine x_callV (M := MX11_change) (L := [(11, b0, f0, s0), (7, (b0 + 8), f1, s1), (0, b2, f2, s2)]) (h := h) (j := 0) (As := [.int (s2.2.2.1 6 a0.toNatClampNeg)]) (st := []) (A := fun (x : Int32 × RS) => some (.int x.1)) (Lc := [(11, b0, f0, s0)]) (Lr := fun (x : Int32 × RS) => [(11, b0, f0, x.2)]) (L2 := fun (x : Int32 × RS) => [(11, b0, f0, x.2), (7, (b0 + 8), f1, s1), (0, b2, f2, s2)]) cv_X11_169 (by decide) (pc := 93) dX11_change_93 ho rfl xc0_11 rfl rfl (Nat.le_of_ble_eq_true rfl) (xovs (L := [(11, b0, f0, s0), (7, (b0 + 8), f1, s1), (0, b2, f2, s2)]) (h := h) [(0, (11, b0, f0, s0))] ho ⟨rfl, trivial⟩).1 (fun x => (xovs (L := [(11, b0, f0, s0), (7, (b0 + 8), f1, s1), (0, b2, f2, s2)]) (h := h) [(0, (11, b0, f0, x.2))] ho ⟨rfl, trivial⟩).1) (fun x hx => pX11_tell_ok (h := xw [(11, b0, f0, s0), (7, (b0 + 8), f1, s1), (0, b2, f2, s2)] h) (xok_sub ho [0] rfl (by decide)) s0 (s2.2.2.1 6 a0.toNatClampNeg) x hx) rfl (fun x6 _ => ?_)
            refine s_goto (tgt := 105) (pc := 96) dX11_change_96 (by decide) ?_
            exact s_iret (pc := 105) dX11_change_105 rfl (fun _ _ q => q)
          · refine s_aload_n (pc := 99) 1 dX11_change_99 rfl ?_
            refine s_bipush (v := 8) (pc := 100) dX11_change_100 (by decide) ?_
            refine x_callV (M := MX11_change) (L := [(11, b0, f0, s0), (7, (b0 + 8), f1, s1), (0, b2, f2, s2)]) (h := h) (j := 0) (As := [.int 8]) (st := []) (A := fun (x : Int32 × RS) => some (.int x.1)) (Lc := [(11, b0, f0, s0)]) (Lr := fun (x : Int32 × RS) => [(11, b0, f0, x.2)]) (L2 := fun (x : Int32 × RS) => [(11, b0, f0, x.2), (7, (b0 + 8), f1, s1), (0, b2, f2, s2)]) cv_X11_113 (by decide) (pc := 102) dX11_change_102 ho rfl xc0_11 rfl rfl (Nat.le_of_ble_eq_true rfl) (xovs (L := [(11, b0, f0, s0), (7, (b0 + 8), f1, s1), (0, b2, f2, s2)]) (h := h) [(0, (11, b0, f0, s0))] ho ⟨rfl, trivial⟩).1 (fun x => (xovs (L := [(11, b0, f0, s0), (7, (b0 + 8), f1, s1), (0, b2, f2, s2)]) (h := h) [(0, (11, b0, f0, x.2))] ho ⟨rfl, trivial⟩).1) (fun x hx => pX11_refuse_ok (h := xw [(11, b0, f0, s0), (7, (b0 + 8), f1, s1), (0, b2, f2, s2)] h) (xok_sub ho [0] rfl (by decide)) s0 (8 : Int32) x hx) rfl (fun x5 _ => ?_)
            exact s_iret (pc := 105) dX11_change_105 rfl (fun _ _ q => q)
        · refine s_case (c := a1 = 3) (fun c0 => ?_) (fun n13 => ?_)
          · refine s_tabIn (tgt := 106) (off := 83) (pc := 23) dX11_change_23 (by rw [c0]; decide) (by rw [c0]; decide) (by rw [c0]; rfl) (by decide) ?_
            refine s_aload_n (pc := 106) 1 dX11_change_106 rfl ?_
            refine s_aload_n (pc := 107) 0 dX11_change_107 rfl ?_
            refine xg_X11_226 2 ho rfl (pc := 108) dX11_change_108 rfl ?_
            refine s_iload_n (pc := 111) 2 dX11_change_111 rfl ?_
            refine xl_0_7 2 ho rfl (pc := 112) dX11_change_112 ?_
            refine x_callV (M := MX11_change) (L := [(11, b0, f0, s0), (7, (b0 + 8), f1, s1), (0, b2, f2, s2)]) (h := h) (j := 0) (As := [.int (s2.2.2.1 7 a0.toNatClampNeg)]) (st := []) (A := fun (x : Int32 × RS) => some (.int x.1)) (Lc := [(11, b0, f0, s0)]) (Lr := fun (x : Int32 × RS) => [(11, b0, f0, x.2)]) (L2 := fun (x : Int32 × RS) => [(11, b0, f0, x.2), (7, (b0 + 8), f1, s1), (0, b2, f2, s2)]) cv_X11_169 (by decide) (pc := 113) dX11_change_113 ho rfl xc0_11 rfl rfl (Nat.le_of_ble_eq_true rfl) (xovs (L := [(11, b0, f0, s0), (7, (b0 + 8), f1, s1), (0, b2, f2, s2)]) (h := h) [(0, (11, b0, f0, s0))] ho ⟨rfl, trivial⟩).1 (fun x => (xovs (L := [(11, b0, f0, s0), (7, (b0 + 8), f1, s1), (0, b2, f2, s2)]) (h := h) [(0, (11, b0, f0, x.2))] ho ⟨rfl, trivial⟩).1) (fun x hx => pX11_tell_ok (h := xw [(11, b0, f0, s0), (7, (b0 + 8), f1, s1), (0, b2, f2, s2)] h) (xok_sub ho [0] rfl (by decide)) s0 (s2.2.2.1 7 a0.toNatClampNeg) x hx) rfl (fun x7 _ => ?_)
            exact s_iret (pc := 116) dX11_change_116 rfl (fun _ _ q => q)
          · refine s_case (c := a1 = 4) (fun c0 => ?_) (fun n14 => ?_)
            · refine s_tabIn (tgt := 117) (off := 94) (pc := 23) dX11_change_23 (by rw [c0]; decide) (by rw [c0]; decide) (by rw [c0]; rfl) (by decide) ?_
              refine s_aload_n (pc := 117) 1 dX11_change_117 rfl ?_
              refine s_aload_n (pc := 118) 0 dX11_change_118 rfl ?_
              refine xg_X11_229 2 ho rfl (pc := 119) dX11_change_119 rfl ?_
              refine s_iload_n (pc := 122) 2 dX11_change_122 rfl ?_
              refine xl_0_8 2 ho rfl (pc := 123) dX11_change_123 ?_
              refine x_callV (M := MX11_change) (L := [(11, b0, f0, s0), (7, (b0 + 8), f1, s1), (0, b2, f2, s2)]) (h := h) (j := 0) (As := [.int (s2.2.2.1 8 a0.toNatClampNeg)]) (st := []) (A := fun (x : Int32 × RS) => some (.int x.1)) (Lc := [(11, b0, f0, s0)]) (Lr := fun (x : Int32 × RS) => [(11, b0, f0, x.2)]) (L2 := fun (x : Int32 × RS) => [(11, b0, f0, x.2), (7, (b0 + 8), f1, s1), (0, b2, f2, s2)]) cv_X11_169 (by decide) (pc := 124) dX11_change_124 ho rfl xc0_11 rfl rfl (Nat.le_of_ble_eq_true rfl) (xovs (L := [(11, b0, f0, s0), (7, (b0 + 8), f1, s1), (0, b2, f2, s2)]) (h := h) [(0, (11, b0, f0, s0))] ho ⟨rfl, trivial⟩).1 (fun x => (xovs (L := [(11, b0, f0, s0), (7, (b0 + 8), f1, s1), (0, b2, f2, s2)]) (h := h) [(0, (11, b0, f0, x.2))] ho ⟨rfl, trivial⟩).1) (fun x hx => pX11_tell_ok (h := xw [(11, b0, f0, s0), (7, (b0 + 8), f1, s1), (0, b2, f2, s2)] h) (xok_sub ho [0] rfl (by decide)) s0 (s2.2.2.1 8 a0.toNatClampNeg) x hx) rfl (fun x8 _ => ?_)
              exact s_iret (pc := 127) dX11_change_127 rfl (fun _ _ q => q)
            · refine s_tabOut (tgt := 128) (pc := 23) dX11_change_23 (sw_out (fun i h1 h2 => by
                have hi : i = 0 ∨ i = 1 ∨ i = 2 ∨ i = 3 ∨ i = 4 := by omega
                rcases hi with rfl | rfl | rfl | rfl | rfl
                · exact fun q => n10 (q.trans (by decide))
                · exact fun q => n11 (q.trans (by decide))
                · exact fun q => n12 (q.trans (by decide))
                · exact fun q => n13 (q.trans (by decide))
                · exact fun q => n14 (q.trans (by decide)))) (by decide) ?_
              refine s_aload_n (pc := 128) 1 dX11_change_128 rfl ?_
              refine s_iconst (v := 5) (pc := 129) dX11_change_129 (by decide) ?_
              refine x_callV (M := MX11_change) (L := [(11, b0, f0, s0), (7, (b0 + 8), f1, s1), (0, b2, f2, s2)]) (h := h) (j := 0) (As := [.int 5]) (st := []) (A := fun (x : Int32 × RS) => some (.int x.1)) (Lc := [(11, b0, f0, s0)]) (Lr := fun (x : Int32 × RS) => [(11, b0, f0, x.2)]) (L2 := fun (x : Int32 × RS) => [(11, b0, f0, x.2), (7, (b0 + 8), f1, s1), (0, b2, f2, s2)]) cv_X11_113 (by decide) (pc := 130) dX11_change_130 ho rfl xc0_11 rfl rfl (Nat.le_of_ble_eq_true rfl) (xovs (L := [(11, b0, f0, s0), (7, (b0 + 8), f1, s1), (0, b2, f2, s2)]) (h := h) [(0, (11, b0, f0, s0))] ho ⟨rfl, trivial⟩).1 (fun x => (xovs (L := [(11, b0, f0, s0), (7, (b0 + 8), f1, s1), (0, b2, f2, s2)]) (h := h) [(0, (11, b0, f0, x.2))] ho ⟨rfl, trivial⟩).1) (fun x hx => pX11_refuse_ok (h := xw [(11, b0, f0, s0), (7, (b0 + 8), f1, s1), (0, b2, f2, s2)] h) (xok_sub ho [0] rfl (by decide)) s0 (5 : Int32) x hx) rfl (fun x9 _ => ?_)
              exact s_iret (pc := 133) dX11_change_133 rfl (fun _ _ q => q)
  · refine s_aload_n (pc := 16) 1 dX11_change_16 rfl ?_
    refine s_iconst (v := 2) (pc := 17) dX11_change_17 (by decide) ?_
    refine x_callV (M := MX11_change) (L := [(11, b0, f0, s0), (7, (b0 + 8), f1, s1), (0, b2, f2, s2)]) (h := h) (j := 0) (As := [.int 2]) (st := []) (A := fun (x : Int32 × RS) => some (.int x.1)) (Lc := [(11, b0, f0, s0)]) (Lr := fun (x : Int32 × RS) => [(11, b0, f0, x.2)]) (L2 := fun (x : Int32 × RS) => [(11, b0, f0, x.2), (7, (b0 + 8), f1, s1), (0, b2, f2, s2)]) cv_X11_113 (by decide) (pc := 18) dX11_change_18 ho rfl xc0_11 rfl rfl (Nat.le_of_ble_eq_true rfl) (xovs (L := [(11, b0, f0, s0), (7, (b0 + 8), f1, s1), (0, b2, f2, s2)]) (h := h) [(0, (11, b0, f0, s0))] ho ⟨rfl, trivial⟩).1 (fun x => (xovs (L := [(11, b0, f0, s0), (7, (b0 + 8), f1, s1), (0, b2, f2, s2)]) (h := h) [(0, (11, b0, f0, x.2))] ho ⟨rfl, trivial⟩).1) (fun x hx => pX11_refuse_ok (h := xw [(11, b0, f0, s0), (7, (b0 + 8), f1, s1), (0, b2, f2, s2)] h) (xok_sub ho [0] rfl (by decide)) s0 (2 : Int32) x hx) rfl (fun x15 _ => ?_)
    exact s_iret (pc := 21) dX11_change_21 rfl (fun _ _ q => q)
theorem pX11_change_ok (ho : xok [(11, b0), (7, (b0 + 8)), (0, b2)] h.2.1) (hq_1_0 : f1 0 = some b2) (s0 : RS) (s1 : RS) (s2 : RS) (a0 : Int32) (a1 : Int32) : ∀ x, pX11_change s0 s1 s2 a0 a1 = some x → aMet l 2 yX11_change cX11_change 4 (some .int) [.ref b0, .int a0, .int a1] (xw [(11, b0, f0, s0), (7, (b0 + 8), f1, s1), (0, b2, f2, s2)] h) (some (.int x.1)) (xw [(11, b0, f0, x.2), (7, (b0 + 8), f1, s1), (0, b2, f2, s2)] h) := fun x hx => a_meth (ini := false) (y := yX11_change) (by decide +kernel) (fun q => by cases q) (fun _ => Nat.le_of_ble_eq_true rfl) (pX11_change_w ho hq_1_0 s0 s1 s2 a0 a1) x hx _ _ ⟨rfl, rfl⟩
end
section
variable {l : Launch} {n0 S0 : Nat} {h : aH} {b0 b2 : Nat} {f0 f1 f2 : Nat → Option Nat}
abbrev MX11_hangs : aM := (cX11_hangs, RX11, 4, (some .int), false)
def pX11_hangs (s0 : RS) (s1 : RS) (s2 : RS) (a0 : Int32) (a1 : Int32) : Option (Int32 × RS) :=
  (pX0_isChange s2 a0).bind fun x1 =>
  if x1 = true then
    if a1 = 0 then
      g_in a0 16 (
      (pX11_tell s0 (s2.2.2.1 9 a0.toNatClampNeg)).bind fun x2 =>
      some (x2.1, x2.2))
    else
      if a1 = 1 then
        g_in a0 16 (
        (pX11_tell s0 (s2.2.2.1 10 a0.toNatClampNeg)).bind fun x3 =>
        some (x3.1, x3.2))
      else
        if a1 = 2 then
          g_in a0 16 (
          (pX11_tell s0 (s2.2.2.1 11 a0.toNatClampNeg)).bind fun x4 =>
          some (x4.1, x4.2))
        else
          (pX11_refuse s0 (5 : Int32)).bind fun x5 =>
          some (x5.1, x5.2)
  else
    (pX11_refuse s0 (2 : Int32)).bind fun x9 =>
    some (x9.1, x9.2)
theorem pX11_hangs_w (ho : xok [(11, b0), (7, (b0 + 8)), (0, b2)] h.2.1) (hq_1_0 : f1 0 = some b2) (s0 : RS) (s1 : RS) (s2 : RS) (a0 : Int32) (a1 : Int32) : aS l 1 MX11_hangs n0 S0 (oΦ (fun (x : Int32 × RS) => ((some (.int x.1)), xw [(11, b0, f0, x.2), (7, (b0 + 8), f1, s1), (0, b2, f2, s2)] h))) 0 [(0, .ref b0), (1, .int a0), (2, .int a1)] [] (xw [(11, b0, f0, s0), (7, (b0 + 8), f1, s1), (0, b2, f2, s2)] h) (pX11_hangs s0 s1 s2 a0 a1) := by
  unfold pX11_hangs
  refine s_aload_n (pc := 0) 0 dX11_hangs_0 rfl ?_
  refine xg_X11_25 0 ho rfl (pc := 1) dX11_hangs_1 rfl ?_
  refine xg_X11_174 1 ho rfl (pc := 4) dX11_hangs_4 rfl hq_1_0 ?_
  refine s_astore_n (lv' := [(3, .ref b2), (0, .ref b0), (1, .int a0), (2, .int a1)]) (pc := 7) dX11_hangs_7 (by decide) rfl ?_
  refine s_aload_n (pc := 8) 0 dX11_hangs_8 rfl ?_
  refine s_iload_n (pc := 9) 2 dX11_hangs_9 rfl ?_
  refine x_callV (M := MX11_hangs) (L := [(11, b0, f0, s0), (7, (b0 + 8), f1, s1), (0, b2, f2, s2)]) (h := h) (j := 2) (As := [.int a0]) (st := []) (A := fun (x : Bool) => some (.int (b2i x))) (Lc := [(0, b2, f2, s2)]) (Lr := fun (x : Bool) => [(0, b2, f2, s2)]) (L2 := fun (x : Bool) => [(11, b0, f0, s0), (7, (b0 + 8), f1, s1), (0, b2, f2, s2)]) cv_X11_212 (by decide) (pc := 10) dX11_hangs_10 ho rfl xc0_0 rfl rfl (Nat.le_of_ble_eq_true rfl) (xovs (L := [(11, b0, f0, s0), (7, (b0 + 8), f1, s1), (0, b2, f2, s2)]) (h := h) [(2, (0, b2, f2, s2))] ho ⟨rfl, trivial⟩).1 (fun x => (xovs (L := [(11, b0, f0, s0), (7, (b0 + 8), f1, s1), (0, b2, f2, s2)]) (h := h) [(2, (0, b2, f2, s2))] ho ⟨rfl, trivial⟩).1) (fun x hx => pX0_isChange_ok (h := xw [(11, b0, f0, s0), (7, (b0 + 8), f1, s1), (0, b2, f2, s2)] h) (xok_sub ho [2] rfl (by decide)) s2 a0 x hx) rfl (fun x1 _ => ?_)
  refine s_if_neB (tgt := 22) (pc := 13) dX11_hangs_13 (by decide) (fun _ => ?_) (fun _ => ?_)
  · refine s_iload_n (pc := 22) 3 dX11_hangs_22 rfl ?_
    refine s_case (c := a1 = 0) (fun c0 => ?_) (fun n6 => ?_)
    · refine s_tabIn (tgt := 48) (off := 25) (pc := 23) dX11_hangs_23 (by rw [c0]; decide) (by rw [c0]; decide) (by rw [c0]; rfl) (by decide) ?_
      refine s_aload_n (pc := 48) 1 dX11_hangs_48 rfl ?_
      refine s_aload_n (pc := 49) 0 dX11_hangs_49 rfl ?_
      refine xg_X11_232 2 ho rfl (pc := 50) dX11_hangs_50 rfl ?_
      refine s_iload_n (pc := 53) 2 dX11_hangs_53 rfl ?_
      refine xl_0_9 2 ho rfl (pc := 54) dX11_hangs_54 ?_
      refine x_callV (M := MX11_hangs) (L := [(11, b0, f0, s0), (7, (b0 + 8), f1, s1), (0, b2, f2, s2)]) (h := h) (j := 0) (As := [.int (s2.2.2.1 9 a0.toNatClampNeg)]) (st := []) (A := fun (x : Int32 × RS) => some (.int x.1)) (Lc := [(11, b0, f0, s0)]) (Lr := fun (x : Int32 × RS) => [(11, b0, f0, x.2)]) (L2 := fun (x : Int32 × RS) => [(11, b0, f0, x.2), (7, (b0 + 8), f1, s1), (0, b2, f2, s2)]) cv_X11_169 (by decide) (pc := 55) dX11_hangs_55 ho rfl xc0_11 rfl rfl (Nat.le_of_ble_eq_true rfl) (xovs (L := [(11, b0, f0, s0), (7, (b0 + 8), f1, s1), (0, b2, f2, s2)]) (h := h) [(0, (11, b0, f0, s0))] ho ⟨rfl, trivial⟩).1 (fun x => (xovs (L := [(11, b0, f0, s0), (7, (b0 + 8), f1, s1), (0, b2, f2, s2)]) (h := h) [(0, (11, b0, f0, x.2))] ho ⟨rfl, trivial⟩).1) (fun x hx => pX11_tell_ok (h := xw [(11, b0, f0, s0), (7, (b0 + 8), f1, s1), (0, b2, f2, s2)] h) (xok_sub ho [0] rfl (by decide)) s0 (s2.2.2.1 9 a0.toNatClampNeg) x hx) rfl (fun x2 _ => ?_)
      exact s_iret (pc := 58) dX11_hangs_58 rfl (fun _ _ q => q)
    · refine s_case (c := a1 = 1) (fun c0 => ?_) (fun n7 => ?_)
      · refine s_tabIn (tgt := 59) (off := 36) (pc := 23) dX11_hangs_23 (by rw [c0]; decide) (by rw [c0]; decide) (by rw [c0]; rfl) (by decide) ?_
        refine s_aload_n (pc := 59) 1 dX11_hangs_59 rfl ?_
        refine s_aload_n (pc := 60) 0 dX11_hangs_60 rfl ?_
        refine xg_X11_235 2 ho rfl (pc := 61) dX11_hangs_61 rfl ?_
        refine s_iload_n (pc := 64) 2 dX11_hangs_64 rfl ?_
        refine xl_0_10 2 ho rfl (pc := 65) dX11_hangs_65 ?_
        refine x_callV (M := MX11_hangs) (L := [(11, b0, f0, s0), (7, (b0 + 8), f1, s1), (0, b2, f2, s2)]) (h := h) (j := 0) (As := [.int (s2.2.2.1 10 a0.toNatClampNeg)]) (st := []) (A := fun (x : Int32 × RS) => some (.int x.1)) (Lc := [(11, b0, f0, s0)]) (Lr := fun (x : Int32 × RS) => [(11, b0, f0, x.2)]) (L2 := fun (x : Int32 × RS) => [(11, b0, f0, x.2), (7, (b0 + 8), f1, s1), (0, b2, f2, s2)]) cv_X11_169 (by decide) (pc := 66) dX11_hangs_66 ho rfl xc0_11 rfl rfl (Nat.le_of_ble_eq_true rfl) (xovs (L := [(11, b0, f0, s0), (7, (b0 + 8), f1, s1), (0, b2, f2, s2)]) (h := h) [(0, (11, b0, f0, s0))] ho ⟨rfl, trivial⟩).1 (fun x => (xovs (L := [(11, b0, f0, s0), (7, (b0 + 8), f1, s1), (0, b2, f2, s2)]) (h := h) [(0, (11, b0, f0, x.2))] ho ⟨rfl, trivial⟩).1) (fun x hx => pX11_tell_ok (h := xw [(11, b0, f0, s0), (7, (b0 + 8), f1, s1), (0, b2, f2, s2)] h) (xok_sub ho [0] rfl (by decide)) s0 (s2.2.2.1 10 a0.toNatClampNeg) x hx) rfl (fun x3 _ => ?_)
        exact s_iret (pc := 69) dX11_hangs_69 rfl (fun _ _ q => q)
      · refine s_case (c := a1 = 2) (fun c0 => ?_) (fun n8 => ?_)
        · refine s_tabIn (tgt := 70) (off := 47) (pc := 23) dX11_hangs_23 (by rw [c0]; decide) (by rw [c0]; decide) (by rw [c0]; rfl) (by decide) ?_
          refine s_aload_n (pc := 70) 1 dX11_hangs_70 rfl ?_
          refine s_aload_n (pc := 71) 0 dX11_hangs_71 rfl ?_
          refine xg_X11_238 2 ho rfl (pc := 72) dX11_hangs_72 rfl ?_
          refine s_iload_n (pc := 75) 2 dX11_hangs_75 rfl ?_
          refine xl_0_11 2 ho rfl (pc := 76) dX11_hangs_76 ?_
          refine x_callV (M := MX11_hangs) (L := [(11, b0, f0, s0), (7, (b0 + 8), f1, s1), (0, b2, f2, s2)]) (h := h) (j := 0) (As := [.int (s2.2.2.1 11 a0.toNatClampNeg)]) (st := []) (A := fun (x : Int32 × RS) => some (.int x.1)) (Lc := [(11, b0, f0, s0)]) (Lr := fun (x : Int32 × RS) => [(11, b0, f0, x.2)]) (L2 := fun (x : Int32 × RS) => [(11, b0, f0, x.2), (7, (b0 + 8), f1, s1), (0, b2, f2, s2)]) cv_X11_169 (by decide) (pc := 77) dX11_hangs_77 ho rfl xc0_11 rfl rfl (Nat.le_of_ble_eq_true rfl) (xovs (L := [(11, b0, f0, s0), (7, (b0 + 8), f1, s1), (0, b2, f2, s2)]) (h := h) [(0, (11, b0, f0, s0))] ho ⟨rfl, trivial⟩).1 (fun x => (xovs (L := [(11, b0, f0, s0), (7, (b0 + 8), f1, s1), (0, b2, f2, s2)]) (h := h) [(0, (11, b0, f0, x.2))] ho ⟨rfl, trivial⟩).1) (fun x hx => pX11_tell_ok (h := xw [(11, b0, f0, s0), (7, (b0 + 8), f1, s1), (0, b2, f2, s2)] h) (xok_sub ho [0] rfl (by decide)) s0 (s2.2.2.1 11 a0.toNatClampNeg) x hx) rfl (fun x4 _ => ?_)
          exact s_iret (pc := 80) dX11_hangs_80 rfl (fun _ _ q => q)
        · refine s_tabOut (tgt := 81) (pc := 23) dX11_hangs_23 (sw_out (fun i h1 h2 => by
            have hi : i = 0 ∨ i = 1 ∨ i = 2 := by omega
            rcases hi with rfl | rfl | rfl
            · exact fun q => n6 (q.trans (by decide))
            · exact fun q => n7 (q.trans (by decide))
            · exact fun q => n8 (q.trans (by decide)))) (by decide) ?_
          refine s_aload_n (pc := 81) 1 dX11_hangs_81 rfl ?_
          refine s_iconst (v := 5) (pc := 82) dX11_hangs_82 (by decide) ?_
          refine x_callV (M := MX11_hangs) (L := [(11, b0, f0, s0), (7, (b0 + 8), f1, s1), (0, b2, f2, s2)]) (h := h) (j := 0) (As := [.int 5]) (st := []) (A := fun (x : Int32 × RS) => some (.int x.1)) (Lc := [(11, b0, f0, s0)]) (Lr := fun (x : Int32 × RS) => [(11, b0, f0, x.2)]) (L2 := fun (x : Int32 × RS) => [(11, b0, f0, x.2), (7, (b0 + 8), f1, s1), (0, b2, f2, s2)]) cv_X11_113 (by decide) (pc := 83) dX11_hangs_83 ho rfl xc0_11 rfl rfl (Nat.le_of_ble_eq_true rfl) (xovs (L := [(11, b0, f0, s0), (7, (b0 + 8), f1, s1), (0, b2, f2, s2)]) (h := h) [(0, (11, b0, f0, s0))] ho ⟨rfl, trivial⟩).1 (fun x => (xovs (L := [(11, b0, f0, s0), (7, (b0 + 8), f1, s1), (0, b2, f2, s2)]) (h := h) [(0, (11, b0, f0, x.2))] ho ⟨rfl, trivial⟩).1) (fun x hx => pX11_refuse_ok (h := xw [(11, b0, f0, s0), (7, (b0 + 8), f1, s1), (0, b2, f2, s2)] h) (xok_sub ho [0] rfl (by decide)) s0 (5 : Int32) x hx) rfl (fun x5 _ => ?_)
          exact s_iret (pc := 86) dX11_hangs_86 rfl (fun _ _ q => q)
  · refine s_aload_n (pc := 16) 1 dX11_hangs_16 rfl ?_
    refine s_iconst (v := 2) (pc := 17) dX11_hangs_17 (by decide) ?_
    refine x_callV (M := MX11_hangs) (L := [(11, b0, f0, s0), (7, (b0 + 8), f1, s1), (0, b2, f2, s2)]) (h := h) (j := 0) (As := [.int 2]) (st := []) (A := fun (x : Int32 × RS) => some (.int x.1)) (Lc := [(11, b0, f0, s0)]) (Lr := fun (x : Int32 × RS) => [(11, b0, f0, x.2)]) (L2 := fun (x : Int32 × RS) => [(11, b0, f0, x.2), (7, (b0 + 8), f1, s1), (0, b2, f2, s2)]) cv_X11_113 (by decide) (pc := 18) dX11_hangs_18 ho rfl xc0_11 rfl rfl (Nat.le_of_ble_eq_true rfl) (xovs (L := [(11, b0, f0, s0), (7, (b0 + 8), f1, s1), (0, b2, f2, s2)]) (h := h) [(0, (11, b0, f0, s0))] ho ⟨rfl, trivial⟩).1 (fun x => (xovs (L := [(11, b0, f0, s0), (7, (b0 + 8), f1, s1), (0, b2, f2, s2)]) (h := h) [(0, (11, b0, f0, x.2))] ho ⟨rfl, trivial⟩).1) (fun x hx => pX11_refuse_ok (h := xw [(11, b0, f0, s0), (7, (b0 + 8), f1, s1), (0, b2, f2, s2)] h) (xok_sub ho [0] rfl (by decide)) s0 (2 : Int32) x hx) rfl (fun x9 _ => ?_)
    exact s_iret (pc := 21) dX11_hangs_21 rfl (fun _ _ q => q)
theorem pX11_hangs_ok (ho : xok [(11, b0), (7, (b0 + 8)), (0, b2)] h.2.1) (hq_1_0 : f1 0 = some b2) (s0 : RS) (s1 : RS) (s2 : RS) (a0 : Int32) (a1 : Int32) : ∀ x, pX11_hangs s0 s1 s2 a0 a1 = some x → aMet l 1 yX11_hangs cX11_hangs 4 (some .int) [.ref b0, .int a0, .int a1] (xw [(11, b0, f0, s0), (7, (b0 + 8), f1, s1), (0, b2, f2, s2)] h) (some (.int x.1)) (xw [(11, b0, f0, x.2), (7, (b0 + 8), f1, s1), (0, b2, f2, s2)] h) := fun x hx => a_meth (ini := false) (y := yX11_hangs) (by decide +kernel) (fun q => by cases q) (fun _ => Nat.le_of_ble_eq_true rfl) (pX11_hangs_w ho hq_1_0 s0 s1 s2 a0 a1) x hx _ _ ⟨rfl, rfl⟩
end
section
variable {l : Launch} {n0 S0 : Nat} {h : aH} {b0 b2 : Nat} {f0 f1 f2 : Nat → Option Nat}
abbrev MX11_holds : aM := (cX11_holds, RX11, 2, (some .int), false)
def X11_holds_j40 (k1 : Bool) (s0 : RS) (s1 : RS) (s2 : RS) : Option (Int32 × RS) :=
  (pX11_tell s0 (b2i k1)).bind fun x3 =>
  some (x3.1, x3.2)
theorem X11_holds_j40_ok (ho : xok [(11, b0), (7, (b0 + 8)), (0, b2)] h.2.1) (hq_1_0 : f1 0 = some b2) (k1 : Bool) (s0 : RS) (s1 : RS) (s2 : RS) : aS l 3 MX11_holds n0 S0 (oΦ (fun (x : Int32 × RS) => ((some (.int x.1)), xw [(11, b0, f0, x.2), (7, (b0 + 8), f1, s1), (0, b2, f2, s2)] h))) 40 [] [.int (b2i k1), .ref b0] (xw [(11, b0, f0, s0), (7, (b0 + 8), f1, s1), (0, b2, f2, s2)] h) (X11_holds_j40 k1 s0 s1 s2) := by
  unfold X11_holds_j40
  refine x_callV (M := MX11_holds) (L := [(11, b0, f0, s0), (7, (b0 + 8), f1, s1), (0, b2, f2, s2)]) (h := h) (j := 0) (As := [.int (b2i k1)]) (st := []) (A := fun (x : Int32 × RS) => some (.int x.1)) (Lc := [(11, b0, f0, s0)]) (Lr := fun (x : Int32 × RS) => [(11, b0, f0, x.2)]) (L2 := fun (x : Int32 × RS) => [(11, b0, f0, x.2), (7, (b0 + 8), f1, s1), (0, b2, f2, s2)]) cv_X11_169 (by decide) (pc := 40) dX11_holds_40 ho rfl xc0_11 rfl rfl (Nat.le_of_ble_eq_true rfl) (xovs (L := [(11, b0, f0, s0), (7, (b0 + 8), f1, s1), (0, b2, f2, s2)]) (h := h) [(0, (11, b0, f0, s0))] ho ⟨rfl, trivial⟩).1 (fun x => (xovs (L := [(11, b0, f0, s0), (7, (b0 + 8), f1, s1), (0, b2, f2, s2)]) (h := h) [(0, (11, b0, f0, x.2))] ho ⟨rfl, trivial⟩).1) (fun x hx => pX11_tell_ok (h := xw [(11, b0, f0, s0), (7, (b0 + 8), f1, s1), (0, b2, f2, s2)] h) (xok_sub ho [0] rfl (by decide)) s0 (b2i k1) x hx) rfl (fun x3 _ => ?_)
  exact s_iret (pc := 43) dX11_holds_43 rfl (fun _ _ q => q)
def pX11_holds (s0 : RS) (s1 : RS) (s2 : RS) (a0 : Int32) : Option (Int32 × RS) :=
  (pX0_isSet s2 a0).bind fun x1 =>
  if x1 = true then
    (pX0_isClosed s2 a0).bind fun x2 =>
    if x2 = true then
      X11_holds_j40 true s0 s1 s2
    else
      X11_holds_j40 false s0 s1 s2
  else
    (pX11_refuse s0 (2 : Int32)).bind fun x4 =>
    some (x4.1, x4.2)
theorem pX11_holds_w (ho : xok [(11, b0), (7, (b0 + 8)), (0, b2)] h.2.1) (hq_1_0 : f1 0 = some b2) (s0 : RS) (s1 : RS) (s2 : RS) (a0 : Int32) : aS l 3 MX11_holds n0 S0 (oΦ (fun (x : Int32 × RS) => ((some (.int x.1)), xw [(11, b0, f0, x.2), (7, (b0 + 8), f1, s1), (0, b2, f2, s2)] h))) 0 [(0, .ref b0), (1, .int a0)] [] (xw [(11, b0, f0, s0), (7, (b0 + 8), f1, s1), (0, b2, f2, s2)] h) (pX11_holds s0 s1 s2 a0) := by
  unfold pX11_holds
  refine s_aload_n (pc := 0) 0 dX11_holds_0 rfl ?_
  refine xg_X11_25 0 ho rfl (pc := 1) dX11_holds_1 rfl ?_
  refine xg_X11_174 1 ho rfl (pc := 4) dX11_holds_4 rfl hq_1_0 ?_
  refine s_iload_n (pc := 7) 1 dX11_holds_7 rfl ?_
  refine x_callV (M := MX11_holds) (L := [(11, b0, f0, s0), (7, (b0 + 8), f1, s1), (0, b2, f2, s2)]) (h := h) (j := 2) (As := [.int a0]) (st := []) (A := fun (x : Bool) => some (.int (b2i x))) (Lc := [(0, b2, f2, s2)]) (Lr := fun (x : Bool) => [(0, b2, f2, s2)]) (L2 := fun (x : Bool) => [(11, b0, f0, s0), (7, (b0 + 8), f1, s1), (0, b2, f2, s2)]) cv_X11_241 (by decide) (pc := 8) dX11_holds_8 ho rfl xc0_0 rfl rfl (Nat.le_of_ble_eq_true rfl) (xovs (L := [(11, b0, f0, s0), (7, (b0 + 8), f1, s1), (0, b2, f2, s2)]) (h := h) [(2, (0, b2, f2, s2))] ho ⟨rfl, trivial⟩).1 (fun x => (xovs (L := [(11, b0, f0, s0), (7, (b0 + 8), f1, s1), (0, b2, f2, s2)]) (h := h) [(2, (0, b2, f2, s2))] ho ⟨rfl, trivial⟩).1) (fun x hx => pX0_isSet_ok (h := xw [(11, b0, f0, s0), (7, (b0 + 8), f1, s1), (0, b2, f2, s2)] h) (xok_sub ho [2] rfl (by decide)) s2 a0 x hx) rfl (fun x1 _ => ?_)
  refine s_if_neB (tgt := 20) (pc := 11) dX11_holds_11 (by decide) (fun _ => ?_) (fun _ => ?_)
  · refine s_aload_n (pc := 20) 0 dX11_holds_20 rfl ?_
    refine s_aload_n (pc := 21) 0 dX11_holds_21 rfl ?_
    refine xg_X11_25 0 ho rfl (pc := 22) dX11_holds_22 rfl ?_
    refine xg_X11_174 1 ho rfl (pc := 25) dX11_holds_25 rfl hq_1_0 ?_
    refine s_iload_n (pc := 28) 1 dX11_holds_28 rfl ?_
    refine x_callV (M := MX11_holds) (L := [(11, b0, f0, s0), (7, (b0 + 8), f1, s1), (0, b2, f2, s2)]) (h := h) (j := 2) (As := [.int a0]) (st := [.ref b0]) (A := fun (x : Bool) => some (.int (b2i x))) (Lc := [(0, b2, f2, s2)]) (Lr := fun (x : Bool) => [(0, b2, f2, s2)]) (L2 := fun (x : Bool) => [(11, b0, f0, s0), (7, (b0 + 8), f1, s1), (0, b2, f2, s2)]) cv_X11_244 (by decide) (pc := 29) dX11_holds_29 ho rfl xc0_0 rfl rfl (Nat.le_of_ble_eq_true rfl) (xovs (L := [(11, b0, f0, s0), (7, (b0 + 8), f1, s1), (0, b2, f2, s2)]) (h := h) [(2, (0, b2, f2, s2))] ho ⟨rfl, trivial⟩).1 (fun x => (xovs (L := [(11, b0, f0, s0), (7, (b0 + 8), f1, s1), (0, b2, f2, s2)]) (h := h) [(2, (0, b2, f2, s2))] ho ⟨rfl, trivial⟩).1) (fun x hx => pX0_isClosed_ok (h := xw [(11, b0, f0, s0), (7, (b0 + 8), f1, s1), (0, b2, f2, s2)] h) (xok_sub ho [2] rfl (by decide)) s2 a0 x hx) rfl (fun x2 _ => ?_)
    refine s_if_eqB (tgt := 39) (pc := 32) dX11_holds_32 (by decide) (fun _ => ?_) (fun _ => ?_)
    · refine s_iconst (v := 1) (pc := 35) dX11_holds_35 (by decide) ?_
      refine s_goto (tgt := 40) (pc := 36) dX11_holds_36 (by decide) ?_
      refine s_sub [] rfl ?_
      exact X11_holds_j40_ok ho hq_1_0 true s0 s1 s2
    · refine s_iconst (v := 0) (pc := 39) dX11_holds_39 (by decide) ?_
      refine s_sub [] rfl ?_
      exact X11_holds_j40_ok ho hq_1_0 false s0 s1 s2
  · refine s_aload_n (pc := 14) 0 dX11_holds_14 rfl ?_
    refine s_iconst (v := 2) (pc := 15) dX11_holds_15 (by decide) ?_
    refine x_callV (M := MX11_holds) (L := [(11, b0, f0, s0), (7, (b0 + 8), f1, s1), (0, b2, f2, s2)]) (h := h) (j := 0) (As := [.int 2]) (st := []) (A := fun (x : Int32 × RS) => some (.int x.1)) (Lc := [(11, b0, f0, s0)]) (Lr := fun (x : Int32 × RS) => [(11, b0, f0, x.2)]) (L2 := fun (x : Int32 × RS) => [(11, b0, f0, x.2), (7, (b0 + 8), f1, s1), (0, b2, f2, s2)]) cv_X11_113 (by decide) (pc := 16) dX11_holds_16 ho rfl xc0_11 rfl rfl (Nat.le_of_ble_eq_true rfl) (xovs (L := [(11, b0, f0, s0), (7, (b0 + 8), f1, s1), (0, b2, f2, s2)]) (h := h) [(0, (11, b0, f0, s0))] ho ⟨rfl, trivial⟩).1 (fun x => (xovs (L := [(11, b0, f0, s0), (7, (b0 + 8), f1, s1), (0, b2, f2, s2)]) (h := h) [(0, (11, b0, f0, x.2))] ho ⟨rfl, trivial⟩).1) (fun x hx => pX11_refuse_ok (h := xw [(11, b0, f0, s0), (7, (b0 + 8), f1, s1), (0, b2, f2, s2)] h) (xok_sub ho [0] rfl (by decide)) s0 (2 : Int32) x hx) rfl (fun x4 _ => ?_)
    exact s_iret (pc := 19) dX11_holds_19 rfl (fun _ _ q => q)
theorem pX11_holds_ok (ho : xok [(11, b0), (7, (b0 + 8)), (0, b2)] h.2.1) (hq_1_0 : f1 0 = some b2) (s0 : RS) (s1 : RS) (s2 : RS) (a0 : Int32) : ∀ x, pX11_holds s0 s1 s2 a0 = some x → aMet l 3 yX11_holds cX11_holds 2 (some .int) [.ref b0, .int a0] (xw [(11, b0, f0, s0), (7, (b0 + 8), f1, s1), (0, b2, f2, s2)] h) (some (.int x.1)) (xw [(11, b0, f0, x.2), (7, (b0 + 8), f1, s1), (0, b2, f2, s2)] h) := fun x hx => a_meth (ini := false) (y := yX11_holds) (by decide +kernel) (fun q => by cases q) (fun _ => Nat.le_of_ble_eq_true rfl) (pX11_holds_w ho hq_1_0 s0 s1 s2 a0) x hx _ _ ⟨rfl, rfl⟩
end
section
variable {l : Launch} {n0 S0 : Nat} {h : aH} {b0 b2 : Nat} {f0 f1 f2 : Nat → Option Nat}
abbrev MX11_lacks : aM := (cX11_lacks, RX11, 2, (some .int), false)
def pX11_lacks (s0 : RS) (s1 : RS) (s2 : RS) (a0 : Int32) : Option (Int32 × RS) :=
  (pX0_isSet s2 a0).bind fun x1 =>
  if x1 = true then
    (pX0_missingFrom s2 a0).bind fun x2 =>
    (pX11_tell s0 x2).bind fun x3 =>
    some (x3.1, x3.2)
  else
    (pX11_refuse s0 (2 : Int32)).bind fun x4 =>
    some (x4.1, x4.2)
theorem pX11_lacks_w (ho : xok [(11, b0), (7, (b0 + 8)), (0, b2)] h.2.1) (hq_1_0 : f1 0 = some b2) (s0 : RS) (s1 : RS) (s2 : RS) (a0 : Int32) : aS l 2 MX11_lacks n0 S0 (oΦ (fun (x : Int32 × RS) => ((some (.int x.1)), xw [(11, b0, f0, x.2), (7, (b0 + 8), f1, s1), (0, b2, f2, s2)] h))) 0 [(0, .ref b0), (1, .int a0)] [] (xw [(11, b0, f0, s0), (7, (b0 + 8), f1, s1), (0, b2, f2, s2)] h) (pX11_lacks s0 s1 s2 a0) := by
  unfold pX11_lacks
  refine s_aload_n (pc := 0) 0 dX11_lacks_0 rfl ?_
  refine xg_X11_25 0 ho rfl (pc := 1) dX11_lacks_1 rfl ?_
  refine xg_X11_174 1 ho rfl (pc := 4) dX11_lacks_4 rfl hq_1_0 ?_
  refine s_iload_n (pc := 7) 1 dX11_lacks_7 rfl ?_
  refine x_callV (M := MX11_lacks) (L := [(11, b0, f0, s0), (7, (b0 + 8), f1, s1), (0, b2, f2, s2)]) (h := h) (j := 2) (As := [.int a0]) (st := []) (A := fun (x : Bool) => some (.int (b2i x))) (Lc := [(0, b2, f2, s2)]) (Lr := fun (x : Bool) => [(0, b2, f2, s2)]) (L2 := fun (x : Bool) => [(11, b0, f0, s0), (7, (b0 + 8), f1, s1), (0, b2, f2, s2)]) cv_X11_241 (by decide) (pc := 8) dX11_lacks_8 ho rfl xc0_0 rfl rfl (Nat.le_of_ble_eq_true rfl) (xovs (L := [(11, b0, f0, s0), (7, (b0 + 8), f1, s1), (0, b2, f2, s2)]) (h := h) [(2, (0, b2, f2, s2))] ho ⟨rfl, trivial⟩).1 (fun x => (xovs (L := [(11, b0, f0, s0), (7, (b0 + 8), f1, s1), (0, b2, f2, s2)]) (h := h) [(2, (0, b2, f2, s2))] ho ⟨rfl, trivial⟩).1) (fun x hx => pX0_isSet_ok (h := xw [(11, b0, f0, s0), (7, (b0 + 8), f1, s1), (0, b2, f2, s2)] h) (xok_sub ho [2] rfl (by decide)) s2 a0 x hx) rfl (fun x1 _ => ?_)
  refine s_if_neB (tgt := 20) (pc := 11) dX11_lacks_11 (by decide) (fun _ => ?_) (fun _ => ?_)
  · refine s_aload_n (pc := 20) 0 dX11_lacks_20 rfl ?_
    refine s_aload_n (pc := 21) 0 dX11_lacks_21 rfl ?_
    refine xg_X11_25 0 ho rfl (pc := 22) dX11_lacks_22 rfl ?_
    refine xg_X11_174 1 ho rfl (pc := 25) dX11_lacks_25 rfl hq_1_0 ?_
    refine s_iload_n (pc := 28) 1 dX11_lacks_28 rfl ?_
    refine x_callV (M := MX11_lacks) (L := [(11, b0, f0, s0), (7, (b0 + 8), f1, s1), (0, b2, f2, s2)]) (h := h) (j := 2) (As := [.int a0]) (st := [.ref b0]) (A := fun (x : Int32) => some (.int x)) (Lc := [(0, b2, f2, s2)]) (Lr := fun (x : Int32) => [(0, b2, f2, s2)]) (L2 := fun (x : Int32) => [(11, b0, f0, s0), (7, (b0 + 8), f1, s1), (0, b2, f2, s2)]) cv_X11_247 (by decide) (pc := 29) dX11_lacks_29 ho rfl xc0_0 rfl rfl (Nat.le_of_ble_eq_true rfl) (xovs (L := [(11, b0, f0, s0), (7, (b0 + 8), f1, s1), (0, b2, f2, s2)]) (h := h) [(2, (0, b2, f2, s2))] ho ⟨rfl, trivial⟩).1 (fun x => (xovs (L := [(11, b0, f0, s0), (7, (b0 + 8), f1, s1), (0, b2, f2, s2)]) (h := h) [(2, (0, b2, f2, s2))] ho ⟨rfl, trivial⟩).1) (fun x hx => pX0_missingFrom_ok (h := xw [(11, b0, f0, s0), (7, (b0 + 8), f1, s1), (0, b2, f2, s2)] h) (xok_sub ho [2] rfl (by decide)) s2 a0 x hx) rfl (fun x2 _ => ?_)
    refine x_callV (M := MX11_lacks) (L := [(11, b0, f0, s0), (7, (b0 + 8), f1, s1), (0, b2, f2, s2)]) (h := h) (j := 0) (As := [.int x2]) (st := []) (A := fun (x : Int32 × RS) => some (.int x.1)) (Lc := [(11, b0, f0, s0)]) (Lr := fun (x : Int32 × RS) => [(11, b0, f0, x.2)]) (L2 := fun (x : Int32 × RS) => [(11, b0, f0, x.2), (7, (b0 + 8), f1, s1), (0, b2, f2, s2)]) cv_X11_169 (by decide) (pc := 32) dX11_lacks_32 ho rfl xc0_11 rfl rfl (Nat.le_of_ble_eq_true rfl) (xovs (L := [(11, b0, f0, s0), (7, (b0 + 8), f1, s1), (0, b2, f2, s2)]) (h := h) [(0, (11, b0, f0, s0))] ho ⟨rfl, trivial⟩).1 (fun x => (xovs (L := [(11, b0, f0, s0), (7, (b0 + 8), f1, s1), (0, b2, f2, s2)]) (h := h) [(0, (11, b0, f0, x.2))] ho ⟨rfl, trivial⟩).1) (fun x hx => pX11_tell_ok (h := xw [(11, b0, f0, s0), (7, (b0 + 8), f1, s1), (0, b2, f2, s2)] h) (xok_sub ho [0] rfl (by decide)) s0 x2 x hx) rfl (fun x3 _ => ?_)
    exact s_iret (pc := 35) dX11_lacks_35 rfl (fun _ _ q => q)
  · refine s_aload_n (pc := 14) 0 dX11_lacks_14 rfl ?_
    refine s_iconst (v := 2) (pc := 15) dX11_lacks_15 (by decide) ?_
    refine x_callV (M := MX11_lacks) (L := [(11, b0, f0, s0), (7, (b0 + 8), f1, s1), (0, b2, f2, s2)]) (h := h) (j := 0) (As := [.int 2]) (st := []) (A := fun (x : Int32 × RS) => some (.int x.1)) (Lc := [(11, b0, f0, s0)]) (Lr := fun (x : Int32 × RS) => [(11, b0, f0, x.2)]) (L2 := fun (x : Int32 × RS) => [(11, b0, f0, x.2), (7, (b0 + 8), f1, s1), (0, b2, f2, s2)]) cv_X11_113 (by decide) (pc := 16) dX11_lacks_16 ho rfl xc0_11 rfl rfl (Nat.le_of_ble_eq_true rfl) (xovs (L := [(11, b0, f0, s0), (7, (b0 + 8), f1, s1), (0, b2, f2, s2)]) (h := h) [(0, (11, b0, f0, s0))] ho ⟨rfl, trivial⟩).1 (fun x => (xovs (L := [(11, b0, f0, s0), (7, (b0 + 8), f1, s1), (0, b2, f2, s2)]) (h := h) [(0, (11, b0, f0, x.2))] ho ⟨rfl, trivial⟩).1) (fun x hx => pX11_refuse_ok (h := xw [(11, b0, f0, s0), (7, (b0 + 8), f1, s1), (0, b2, f2, s2)] h) (xok_sub ho [0] rfl (by decide)) s0 (2 : Int32) x hx) rfl (fun x4 _ => ?_)
    exact s_iret (pc := 19) dX11_lacks_19 rfl (fun _ _ q => q)
theorem pX11_lacks_ok (ho : xok [(11, b0), (7, (b0 + 8)), (0, b2)] h.2.1) (hq_1_0 : f1 0 = some b2) (s0 : RS) (s1 : RS) (s2 : RS) (a0 : Int32) : ∀ x, pX11_lacks s0 s1 s2 a0 = some x → aMet l 2 yX11_lacks cX11_lacks 2 (some .int) [.ref b0, .int a0] (xw [(11, b0, f0, s0), (7, (b0 + 8), f1, s1), (0, b2, f2, s2)] h) (some (.int x.1)) (xw [(11, b0, f0, x.2), (7, (b0 + 8), f1, s1), (0, b2, f2, s2)] h) := fun x hx => a_meth (ini := false) (y := yX11_lacks) (by decide +kernel) (fun q => by cases q) (fun _ => Nat.le_of_ble_eq_true rfl) (pX11_lacks_w ho hq_1_0 s0 s1 s2 a0) x hx _ _ ⟨rfl, rfl⟩
end
section
variable {l : Launch} {n0 S0 : Nat} {h : aH} {b0 b2 : Nat} {f0 f1 f2 : Nat → Option Nat}
abbrev MX11_out : aM := (cX11_out, RX11, 3, (some .int), false)
def X11_out_j28 (s0 : RS) (s1 : RS) (s2 : RS) : Option (Int32 × RS) :=
  (pX11_refuse s0 (2 : Int32)).bind fun x2 =>
  some (x2.1, x2.2)
theorem X11_out_j28_ok (ho : xok [(11, b0), (7, (b0 + 8)), (0, b2)] h.2.1) (hq_1_0 : f1 0 = some b2) (s0 : RS) (s1 : RS) (s2 : RS) : aS l 2 MX11_out n0 S0 (oΦ (fun (x : Int32 × RS) => ((some (.int x.1)), xw [(11, b0, f0, x.2), (7, (b0 + 8), f1, s1), (0, b2, f2, s2)] h))) 28 [(0, .ref b0)] [] (xw [(11, b0, f0, s0), (7, (b0 + 8), f1, s1), (0, b2, f2, s2)] h) (X11_out_j28 s0 s1 s2) := by
  unfold X11_out_j28
  refine s_aload_n (pc := 28) 0 dX11_out_28 rfl ?_
  refine s_iconst (v := 2) (pc := 29) dX11_out_29 (by decide) ?_
  refine x_callV (M := MX11_out) (L := [(11, b0, f0, s0), (7, (b0 + 8), f1, s1), (0, b2, f2, s2)]) (h := h) (j := 0) (As := [.int 2]) (st := []) (A := fun (x : Int32 × RS) => some (.int x.1)) (Lc := [(11, b0, f0, s0)]) (Lr := fun (x : Int32 × RS) => [(11, b0, f0, x.2)]) (L2 := fun (x : Int32 × RS) => [(11, b0, f0, x.2), (7, (b0 + 8), f1, s1), (0, b2, f2, s2)]) cv_X11_113 (by decide) (pc := 30) dX11_out_30 ho rfl xc0_11 rfl rfl (Nat.le_of_ble_eq_true rfl) (xovs (L := [(11, b0, f0, s0), (7, (b0 + 8), f1, s1), (0, b2, f2, s2)]) (h := h) [(0, (11, b0, f0, s0))] ho ⟨rfl, trivial⟩).1 (fun x => (xovs (L := [(11, b0, f0, s0), (7, (b0 + 8), f1, s1), (0, b2, f2, s2)]) (h := h) [(0, (11, b0, f0, x.2))] ho ⟨rfl, trivial⟩).1) (fun x hx => pX11_refuse_ok (h := xw [(11, b0, f0, s0), (7, (b0 + 8), f1, s1), (0, b2, f2, s2)] h) (xok_sub ho [0] rfl (by decide)) s0 (2 : Int32) x hx) rfl (fun x2 _ => ?_)
  exact s_iret (pc := 33) dX11_out_33 rfl (fun _ _ q => q)
def pX11_out (s0 : RS) (s1 : RS) (s2 : RS) (a0 : Int32) (a1 : Int32) : Option (Int32 × RS) :=
  (pX0_isSet s2 a0).bind fun x1 =>
  if x1 = true then
    (pX0_isChange s2 a1).bind fun x3 =>
    if x3 = true then
      (pX0_without s2 a0 a1).bind fun x4 =>
      (pX11_tell s0 x4).bind fun x5 =>
      some (x5.1, x5.2)
    else
      X11_out_j28 s0 s1 s2
  else
    X11_out_j28 s0 s1 s2
theorem pX11_out_w (ho : xok [(11, b0), (7, (b0 + 8)), (0, b2)] h.2.1) (hq_1_0 : f1 0 = some b2) (s0 : RS) (s1 : RS) (s2 : RS) (a0 : Int32) (a1 : Int32) : aS l 2 MX11_out n0 S0 (oΦ (fun (x : Int32 × RS) => ((some (.int x.1)), xw [(11, b0, f0, x.2), (7, (b0 + 8), f1, s1), (0, b2, f2, s2)] h))) 0 [(0, .ref b0), (1, .int a0), (2, .int a1)] [] (xw [(11, b0, f0, s0), (7, (b0 + 8), f1, s1), (0, b2, f2, s2)] h) (pX11_out s0 s1 s2 a0 a1) := by
  unfold pX11_out
  refine s_aload_n (pc := 0) 0 dX11_out_0 rfl ?_
  refine xg_X11_25 0 ho rfl (pc := 1) dX11_out_1 rfl ?_
  refine xg_X11_174 1 ho rfl (pc := 4) dX11_out_4 rfl hq_1_0 ?_
  refine s_iload_n (pc := 7) 1 dX11_out_7 rfl ?_
  refine x_callV (M := MX11_out) (L := [(11, b0, f0, s0), (7, (b0 + 8), f1, s1), (0, b2, f2, s2)]) (h := h) (j := 2) (As := [.int a0]) (st := []) (A := fun (x : Bool) => some (.int (b2i x))) (Lc := [(0, b2, f2, s2)]) (Lr := fun (x : Bool) => [(0, b2, f2, s2)]) (L2 := fun (x : Bool) => [(11, b0, f0, s0), (7, (b0 + 8), f1, s1), (0, b2, f2, s2)]) cv_X11_241 (by decide) (pc := 8) dX11_out_8 ho rfl xc0_0 rfl rfl (Nat.le_of_ble_eq_true rfl) (xovs (L := [(11, b0, f0, s0), (7, (b0 + 8), f1, s1), (0, b2, f2, s2)]) (h := h) [(2, (0, b2, f2, s2))] ho ⟨rfl, trivial⟩).1 (fun x => (xovs (L := [(11, b0, f0, s0), (7, (b0 + 8), f1, s1), (0, b2, f2, s2)]) (h := h) [(2, (0, b2, f2, s2))] ho ⟨rfl, trivial⟩).1) (fun x hx => pX0_isSet_ok (h := xw [(11, b0, f0, s0), (7, (b0 + 8), f1, s1), (0, b2, f2, s2)] h) (xok_sub ho [2] rfl (by decide)) s2 a0 x hx) rfl (fun x1 _ => ?_)
  refine s_if_eqB (tgt := 28) (pc := 11) dX11_out_11 (by decide) (fun _ => ?_) (fun _ => ?_)
  · refine s_aload_n (pc := 14) 0 dX11_out_14 rfl ?_
    refine xg_X11_25 0 ho rfl (pc := 15) dX11_out_15 rfl ?_
    refine xg_X11_174 1 ho rfl (pc := 18) dX11_out_18 rfl hq_1_0 ?_
    refine s_iload_n (pc := 21) 2 dX11_out_21 rfl ?_
    refine x_callV (M := MX11_out) (L := [(11, b0, f0, s0), (7, (b0 + 8), f1, s1), (0, b2, f2, s2)]) (h := h) (j := 2) (As := [.int a1]) (st := []) (A := fun (x : Bool) => some (.int (b2i x))) (Lc := [(0, b2, f2, s2)]) (Lr := fun (x : Bool) => [(0, b2, f2, s2)]) (L2 := fun (x : Bool) => [(11, b0, f0, s0), (7, (b0 + 8), f1, s1), (0, b2, f2, s2)]) cv_X11_212 (by decide) (pc := 22) dX11_out_22 ho rfl xc0_0 rfl rfl (Nat.le_of_ble_eq_true rfl) (xovs (L := [(11, b0, f0, s0), (7, (b0 + 8), f1, s1), (0, b2, f2, s2)]) (h := h) [(2, (0, b2, f2, s2))] ho ⟨rfl, trivial⟩).1 (fun x => (xovs (L := [(11, b0, f0, s0), (7, (b0 + 8), f1, s1), (0, b2, f2, s2)]) (h := h) [(2, (0, b2, f2, s2))] ho ⟨rfl, trivial⟩).1) (fun x hx => pX0_isChange_ok (h := xw [(11, b0, f0, s0), (7, (b0 + 8), f1, s1), (0, b2, f2, s2)] h) (xok_sub ho [2] rfl (by decide)) s2 a1 x hx) rfl (fun x3 _ => ?_)
    refine s_if_neB (tgt := 34) (pc := 25) dX11_out_25 (by decide) (fun _ => ?_) (fun _ => ?_)
    · refine s_aload_n (pc := 34) 0 dX11_out_34 rfl ?_
      refine s_aload_n (pc := 35) 0 dX11_out_35 rfl ?_
      refine xg_X11_25 0 ho rfl (pc := 36) dX11_out_36 rfl ?_
      refine xg_X11_174 1 ho rfl (pc := 39) dX11_out_39 rfl hq_1_0 ?_
      refine s_iload_n (pc := 42) 1 dX11_out_42 rfl ?_
      refine s_iload_n (pc := 43) 2 dX11_out_43 rfl ?_
      refine x_callV (M := MX11_out) (L := [(11, b0, f0, s0), (7, (b0 + 8), f1, s1), (0, b2, f2, s2)]) (h := h) (j := 2) (As := [.int a0, .int a1]) (st := [.ref b0]) (A := fun (x : Int32) => some (.int x)) (Lc := [(0, b2, f2, s2)]) (Lr := fun (x : Int32) => [(0, b2, f2, s2)]) (L2 := fun (x : Int32) => [(11, b0, f0, s0), (7, (b0 + 8), f1, s1), (0, b2, f2, s2)]) cv_X11_250 (by decide) (pc := 44) dX11_out_44 ho rfl xc0_0 rfl rfl (Nat.le_of_ble_eq_true rfl) (xovs (L := [(11, b0, f0, s0), (7, (b0 + 8), f1, s1), (0, b2, f2, s2)]) (h := h) [(2, (0, b2, f2, s2))] ho ⟨rfl, trivial⟩).1 (fun x => (xovs (L := [(11, b0, f0, s0), (7, (b0 + 8), f1, s1), (0, b2, f2, s2)]) (h := h) [(2, (0, b2, f2, s2))] ho ⟨rfl, trivial⟩).1) (fun x hx => pX0_without_ok (h := xw [(11, b0, f0, s0), (7, (b0 + 8), f1, s1), (0, b2, f2, s2)] h) (xok_sub ho [2] rfl (by decide)) s2 a0 a1 x hx) rfl (fun x4 _ => ?_)
      refine x_callV (M := MX11_out) (L := [(11, b0, f0, s0), (7, (b0 + 8), f1, s1), (0, b2, f2, s2)]) (h := h) (j := 0) (As := [.int x4]) (st := []) (A := fun (x : Int32 × RS) => some (.int x.1)) (Lc := [(11, b0, f0, s0)]) (Lr := fun (x : Int32 × RS) => [(11, b0, f0, x.2)]) (L2 := fun (x : Int32 × RS) => [(11, b0, f0, x.2), (7, (b0 + 8), f1, s1), (0, b2, f2, s2)]) cv_X11_169 (by decide) (pc := 47) dX11_out_47 ho rfl xc0_11 rfl rfl (Nat.le_of_ble_eq_true rfl) (xovs (L := [(11, b0, f0, s0), (7, (b0 + 8), f1, s1), (0, b2, f2, s2)]) (h := h) [(0, (11, b0, f0, s0))] ho ⟨rfl, trivial⟩).1 (fun x => (xovs (L := [(11, b0, f0, s0), (7, (b0 + 8), f1, s1), (0, b2, f2, s2)]) (h := h) [(0, (11, b0, f0, x.2))] ho ⟨rfl, trivial⟩).1) (fun x hx => pX11_tell_ok (h := xw [(11, b0, f0, s0), (7, (b0 + 8), f1, s1), (0, b2, f2, s2)] h) (xok_sub ho [0] rfl (by decide)) s0 x4 x hx) rfl (fun x5 _ => ?_)
      exact s_iret (pc := 50) dX11_out_50 rfl (fun _ _ q => q)
    · refine s_sub [0] rfl ?_
      exact X11_out_j28_ok ho hq_1_0 s0 s1 s2
  · refine s_sub [0] rfl ?_
    exact X11_out_j28_ok ho hq_1_0 s0 s1 s2
theorem pX11_out_ok (ho : xok [(11, b0), (7, (b0 + 8)), (0, b2)] h.2.1) (hq_1_0 : f1 0 = some b2) (s0 : RS) (s1 : RS) (s2 : RS) (a0 : Int32) (a1 : Int32) : ∀ x, pX11_out s0 s1 s2 a0 a1 = some x → aMet l 2 yX11_out cX11_out 3 (some .int) [.ref b0, .int a0, .int a1] (xw [(11, b0, f0, s0), (7, (b0 + 8), f1, s1), (0, b2, f2, s2)] h) (some (.int x.1)) (xw [(11, b0, f0, x.2), (7, (b0 + 8), f1, s1), (0, b2, f2, s2)] h) := fun x hx => a_meth (ini := false) (y := yX11_out) (by decide +kernel) (fun q => by cases q) (fun _ => Nat.le_of_ble_eq_true rfl) (pX11_out_w ho hq_1_0 s0 s1 s2 a0 a1) x hx _ _ ⟨rfl, rfl⟩
end
section
variable {l : Launch} {n0 S0 : Nat} {h : aH} {b0 b2 : Nat} {f0 f1 f2 : Nat → Option Nat}
abbrev MX11_pick : aM := (cX11_pick, RX11, 3, (some .int), false)
def X11_pick_j28 (s0 : RS) (s1 : RS) (s2 : RS) : Option (Int32 × RS) :=
  (pX11_refuse s0 (2 : Int32)).bind fun x2 =>
  some (x2.1, x2.2)
theorem X11_pick_j28_ok (ho : xok [(11, b0), (7, (b0 + 8)), (0, b2)] h.2.1) (hq_1_0 : f1 0 = some b2) (s0 : RS) (s1 : RS) (s2 : RS) : aS l 2 MX11_pick n0 S0 (oΦ (fun (x : Int32 × RS) => ((some (.int x.1)), xw [(11, b0, f0, x.2), (7, (b0 + 8), f1, s1), (0, b2, f2, s2)] h))) 28 [(0, .ref b0)] [] (xw [(11, b0, f0, s0), (7, (b0 + 8), f1, s1), (0, b2, f2, s2)] h) (X11_pick_j28 s0 s1 s2) := by
  unfold X11_pick_j28
  refine s_aload_n (pc := 28) 0 dX11_pick_28 rfl ?_
  refine s_iconst (v := 2) (pc := 29) dX11_pick_29 (by decide) ?_
  refine x_callV (M := MX11_pick) (L := [(11, b0, f0, s0), (7, (b0 + 8), f1, s1), (0, b2, f2, s2)]) (h := h) (j := 0) (As := [.int 2]) (st := []) (A := fun (x : Int32 × RS) => some (.int x.1)) (Lc := [(11, b0, f0, s0)]) (Lr := fun (x : Int32 × RS) => [(11, b0, f0, x.2)]) (L2 := fun (x : Int32 × RS) => [(11, b0, f0, x.2), (7, (b0 + 8), f1, s1), (0, b2, f2, s2)]) cv_X11_113 (by decide) (pc := 30) dX11_pick_30 ho rfl xc0_11 rfl rfl (Nat.le_of_ble_eq_true rfl) (xovs (L := [(11, b0, f0, s0), (7, (b0 + 8), f1, s1), (0, b2, f2, s2)]) (h := h) [(0, (11, b0, f0, s0))] ho ⟨rfl, trivial⟩).1 (fun x => (xovs (L := [(11, b0, f0, s0), (7, (b0 + 8), f1, s1), (0, b2, f2, s2)]) (h := h) [(0, (11, b0, f0, x.2))] ho ⟨rfl, trivial⟩).1) (fun x hx => pX11_refuse_ok (h := xw [(11, b0, f0, s0), (7, (b0 + 8), f1, s1), (0, b2, f2, s2)] h) (xok_sub ho [0] rfl (by decide)) s0 (2 : Int32) x hx) rfl (fun x2 _ => ?_)
  exact s_iret (pc := 33) dX11_pick_33 rfl (fun _ _ q => q)
def pX11_pick (s0 : RS) (s1 : RS) (s2 : RS) (a0 : Int32) (a1 : Int32) : Option (Int32 × RS) :=
  (pX0_isSet s2 a0).bind fun x1 =>
  if x1 = true then
    (pX0_isChange s2 a1).bind fun x3 =>
    if x3 = true then
      (pX0_including s2 a0 a1).bind fun x4 =>
      (pX11_tell s0 x4).bind fun x5 =>
      some (x5.1, x5.2)
    else
      X11_pick_j28 s0 s1 s2
  else
    X11_pick_j28 s0 s1 s2
theorem pX11_pick_w (ho : xok [(11, b0), (7, (b0 + 8)), (0, b2)] h.2.1) (hq_1_0 : f1 0 = some b2) (s0 : RS) (s1 : RS) (s2 : RS) (a0 : Int32) (a1 : Int32) : aS l 2 MX11_pick n0 S0 (oΦ (fun (x : Int32 × RS) => ((some (.int x.1)), xw [(11, b0, f0, x.2), (7, (b0 + 8), f1, s1), (0, b2, f2, s2)] h))) 0 [(0, .ref b0), (1, .int a0), (2, .int a1)] [] (xw [(11, b0, f0, s0), (7, (b0 + 8), f1, s1), (0, b2, f2, s2)] h) (pX11_pick s0 s1 s2 a0 a1) := by
  unfold pX11_pick
  refine s_aload_n (pc := 0) 0 dX11_pick_0 rfl ?_
  refine xg_X11_25 0 ho rfl (pc := 1) dX11_pick_1 rfl ?_
  refine xg_X11_174 1 ho rfl (pc := 4) dX11_pick_4 rfl hq_1_0 ?_
  refine s_iload_n (pc := 7) 1 dX11_pick_7 rfl ?_
  refine x_callV (M := MX11_pick) (L := [(11, b0, f0, s0), (7, (b0 + 8), f1, s1), (0, b2, f2, s2)]) (h := h) (j := 2) (As := [.int a0]) (st := []) (A := fun (x : Bool) => some (.int (b2i x))) (Lc := [(0, b2, f2, s2)]) (Lr := fun (x : Bool) => [(0, b2, f2, s2)]) (L2 := fun (x : Bool) => [(11, b0, f0, s0), (7, (b0 + 8), f1, s1), (0, b2, f2, s2)]) cv_X11_241 (by decide) (pc := 8) dX11_pick_8 ho rfl xc0_0 rfl rfl (Nat.le_of_ble_eq_true rfl) (xovs (L := [(11, b0, f0, s0), (7, (b0 + 8), f1, s1), (0, b2, f2, s2)]) (h := h) [(2, (0, b2, f2, s2))] ho ⟨rfl, trivial⟩).1 (fun x => (xovs (L := [(11, b0, f0, s0), (7, (b0 + 8), f1, s1), (0, b2, f2, s2)]) (h := h) [(2, (0, b2, f2, s2))] ho ⟨rfl, trivial⟩).1) (fun x hx => pX0_isSet_ok (h := xw [(11, b0, f0, s0), (7, (b0 + 8), f1, s1), (0, b2, f2, s2)] h) (xok_sub ho [2] rfl (by decide)) s2 a0 x hx) rfl (fun x1 _ => ?_)
  refine s_if_eqB (tgt := 28) (pc := 11) dX11_pick_11 (by decide) (fun _ => ?_) (fun _ => ?_)
  · refine s_aload_n (pc := 14) 0 dX11_pick_14 rfl ?_
    refine xg_X11_25 0 ho rfl (pc := 15) dX11_pick_15 rfl ?_
    refine xg_X11_174 1 ho rfl (pc := 18) dX11_pick_18 rfl hq_1_0 ?_
    refine s_iload_n (pc := 21) 2 dX11_pick_21 rfl ?_
    refine x_callV (M := MX11_pick) (L := [(11, b0, f0, s0), (7, (b0 + 8), f1, s1), (0, b2, f2, s2)]) (h := h) (j := 2) (As := [.int a1]) (st := []) (A := fun (x : Bool) => some (.int (b2i x))) (Lc := [(0, b2, f2, s2)]) (Lr := fun (x : Bool) => [(0, b2, f2, s2)]) (L2 := fun (x : Bool) => [(11, b0, f0, s0), (7, (b0 + 8), f1, s1), (0, b2, f2, s2)]) cv_X11_212 (by decide) (pc := 22) dX11_pick_22 ho rfl xc0_0 rfl rfl (Nat.le_of_ble_eq_true rfl) (xovs (L := [(11, b0, f0, s0), (7, (b0 + 8), f1, s1), (0, b2, f2, s2)]) (h := h) [(2, (0, b2, f2, s2))] ho ⟨rfl, trivial⟩).1 (fun x => (xovs (L := [(11, b0, f0, s0), (7, (b0 + 8), f1, s1), (0, b2, f2, s2)]) (h := h) [(2, (0, b2, f2, s2))] ho ⟨rfl, trivial⟩).1) (fun x hx => pX0_isChange_ok (h := xw [(11, b0, f0, s0), (7, (b0 + 8), f1, s1), (0, b2, f2, s2)] h) (xok_sub ho [2] rfl (by decide)) s2 a1 x hx) rfl (fun x3 _ => ?_)
    refine s_if_neB (tgt := 34) (pc := 25) dX11_pick_25 (by decide) (fun _ => ?_) (fun _ => ?_)
    · refine s_aload_n (pc := 34) 0 dX11_pick_34 rfl ?_
      refine s_aload_n (pc := 35) 0 dX11_pick_35 rfl ?_
      refine xg_X11_25 0 ho rfl (pc := 36) dX11_pick_36 rfl ?_
      refine xg_X11_174 1 ho rfl (pc := 39) dX11_pick_39 rfl hq_1_0 ?_
      refine s_iload_n (pc := 42) 1 dX11_pick_42 rfl ?_
      refine s_iload_n (pc := 43) 2 dX11_pick_43 rfl ?_
      refine x_callV (M := MX11_pick) (L := [(11, b0, f0, s0), (7, (b0 + 8), f1, s1), (0, b2, f2, s2)]) (h := h) (j := 2) (As := [.int a0, .int a1]) (st := [.ref b0]) (A := fun (x : Int32) => some (.int x)) (Lc := [(0, b2, f2, s2)]) (Lr := fun (x : Int32) => [(0, b2, f2, s2)]) (L2 := fun (x : Int32) => [(11, b0, f0, s0), (7, (b0 + 8), f1, s1), (0, b2, f2, s2)]) cv_X11_253 (by decide) (pc := 44) dX11_pick_44 ho rfl xc0_0 rfl rfl (Nat.le_of_ble_eq_true rfl) (xovs (L := [(11, b0, f0, s0), (7, (b0 + 8), f1, s1), (0, b2, f2, s2)]) (h := h) [(2, (0, b2, f2, s2))] ho ⟨rfl, trivial⟩).1 (fun x => (xovs (L := [(11, b0, f0, s0), (7, (b0 + 8), f1, s1), (0, b2, f2, s2)]) (h := h) [(2, (0, b2, f2, s2))] ho ⟨rfl, trivial⟩).1) (fun x hx => pX0_including_ok (h := xw [(11, b0, f0, s0), (7, (b0 + 8), f1, s1), (0, b2, f2, s2)] h) (xok_sub ho [2] rfl (by decide)) s2 a0 a1 x hx) rfl (fun x4 _ => ?_)
      refine x_callV (M := MX11_pick) (L := [(11, b0, f0, s0), (7, (b0 + 8), f1, s1), (0, b2, f2, s2)]) (h := h) (j := 0) (As := [.int x4]) (st := []) (A := fun (x : Int32 × RS) => some (.int x.1)) (Lc := [(11, b0, f0, s0)]) (Lr := fun (x : Int32 × RS) => [(11, b0, f0, x.2)]) (L2 := fun (x : Int32 × RS) => [(11, b0, f0, x.2), (7, (b0 + 8), f1, s1), (0, b2, f2, s2)]) cv_X11_169 (by decide) (pc := 47) dX11_pick_47 ho rfl xc0_11 rfl rfl (Nat.le_of_ble_eq_true rfl) (xovs (L := [(11, b0, f0, s0), (7, (b0 + 8), f1, s1), (0, b2, f2, s2)]) (h := h) [(0, (11, b0, f0, s0))] ho ⟨rfl, trivial⟩).1 (fun x => (xovs (L := [(11, b0, f0, s0), (7, (b0 + 8), f1, s1), (0, b2, f2, s2)]) (h := h) [(0, (11, b0, f0, x.2))] ho ⟨rfl, trivial⟩).1) (fun x hx => pX11_tell_ok (h := xw [(11, b0, f0, s0), (7, (b0 + 8), f1, s1), (0, b2, f2, s2)] h) (xok_sub ho [0] rfl (by decide)) s0 x4 x hx) rfl (fun x5 _ => ?_)
      exact s_iret (pc := 50) dX11_pick_50 rfl (fun _ _ q => q)
    · refine s_sub [0] rfl ?_
      exact X11_pick_j28_ok ho hq_1_0 s0 s1 s2
  · refine s_sub [0] rfl ?_
    exact X11_pick_j28_ok ho hq_1_0 s0 s1 s2
theorem pX11_pick_ok (ho : xok [(11, b0), (7, (b0 + 8)), (0, b2)] h.2.1) (hq_1_0 : f1 0 = some b2) (s0 : RS) (s1 : RS) (s2 : RS) (a0 : Int32) (a1 : Int32) : ∀ x, pX11_pick s0 s1 s2 a0 a1 = some x → aMet l 2 yX11_pick cX11_pick 3 (some .int) [.ref b0, .int a0, .int a1] (xw [(11, b0, f0, s0), (7, (b0 + 8), f1, s1), (0, b2, f2, s2)] h) (some (.int x.1)) (xw [(11, b0, f0, x.2), (7, (b0 + 8), f1, s1), (0, b2, f2, s2)] h) := fun x hx => a_meth (ini := false) (y := yX11_pick) (by decide +kernel) (fun q => by cases q) (fun _ => Nat.le_of_ble_eq_true rfl) (pX11_pick_w ho hq_1_0 s0 s1 s2 a0 a1) x hx _ _ ⟨rfl, rfl⟩
end
section
variable {l : Launch} {n0 S0 : Nat} {h : aH} {b0 b2 : Nat} {f0 f1 f2 : Nat → Option Nat}
abbrev MX11_heaviest : aM := (cX11_heaviest, RX11, 1, (some .int), false)
def pX11_heaviest (s0 : RS) (s1 : RS) (s2 : RS) : Option (Int32 × RS) :=
  if (s2.1 1) = 0 then
    (pX11_refuse s0 (8 : Int32)).bind fun x3 =>
    some (x3.1, x3.2)
  else
    (pX0_heaviestChange s2).bind fun x1 =>
    (pX11_tell s0 x1).bind fun x2 =>
    some (x2.1, x2.2)
theorem pX11_heaviest_w (ho : xok [(11, b0), (7, (b0 + 8)), (0, b2)] h.2.1) (hq_1_0 : f1 0 = some b2) (s0 : RS) (s1 : RS) (s2 : RS) : aS l 2 MX11_heaviest n0 S0 (oΦ (fun (x : Int32 × RS) => ((some (.int x.1)), xw [(11, b0, f0, x.2), (7, (b0 + 8), f1, s1), (0, b2, f2, s2)] h))) 0 [(0, .ref b0)] [] (xw [(11, b0, f0, s0), (7, (b0 + 8), f1, s1), (0, b2, f2, s2)] h) (pX11_heaviest s0 s1 s2) := by
  unfold pX11_heaviest
  refine s_aload_n (pc := 0) 0 dX11_heaviest_0 rfl ?_
  refine xg_X11_25 0 ho rfl (pc := 1) dX11_heaviest_1 rfl ?_
  refine xg_X11_174 1 ho rfl (pc := 4) dX11_heaviest_4 rfl hq_1_0 ?_
  refine xg_X11_164 2 ho rfl (pc := 7) dX11_heaviest_7 rfl ?_
  refine s_if_ne (tgt := 20) (pc := 10) dX11_heaviest_10 (by decide) (fun _ => ?_) (fun _ => ?_)
  · refine s_aload_n (pc := 13) 0 dX11_heaviest_13 rfl ?_
    refine s_bipush (v := 8) (pc := 14) dX11_heaviest_14 (by decide) ?_
    refine x_callV (M := MX11_heaviest) (L := [(11, b0, f0, s0), (7, (b0 + 8), f1, s1), (0, b2, f2, s2)]) (h := h) (j := 0) (As := [.int 8]) (st := []) (A := fun (x : Int32 × RS) => some (.int x.1)) (Lc := [(11, b0, f0, s0)]) (Lr := fun (x : Int32 × RS) => [(11, b0, f0, x.2)]) (L2 := fun (x : Int32 × RS) => [(11, b0, f0, x.2), (7, (b0 + 8), f1, s1), (0, b2, f2, s2)]) cv_X11_113 (by decide) (pc := 16) dX11_heaviest_16 ho rfl xc0_11 rfl rfl (Nat.le_of_ble_eq_true rfl) (xovs (L := [(11, b0, f0, s0), (7, (b0 + 8), f1, s1), (0, b2, f2, s2)]) (h := h) [(0, (11, b0, f0, s0))] ho ⟨rfl, trivial⟩).1 (fun x => (xovs (L := [(11, b0, f0, s0), (7, (b0 + 8), f1, s1), (0, b2, f2, s2)]) (h := h) [(0, (11, b0, f0, x.2))] ho ⟨rfl, trivial⟩).1) (fun x hx => pX11_refuse_ok (h := xw [(11, b0, f0, s0), (7, (b0 + 8), f1, s1), (0, b2, f2, s2)] h) (xok_sub ho [0] rfl (by decide)) s0 (8 : Int32) x hx) rfl (fun x3 _ => ?_)
    exact s_iret (pc := 19) dX11_heaviest_19 rfl (fun _ _ q => q)
  · refine s_aload_n (pc := 20) 0 dX11_heaviest_20 rfl ?_
    refine s_aload_n (pc := 21) 0 dX11_heaviest_21 rfl ?_
    refine xg_X11_25 0 ho rfl (pc := 22) dX11_heaviest_22 rfl ?_
    refine xg_X11_174 1 ho rfl (pc := 25) dX11_heaviest_25 rfl hq_1_0 ?_
    refine x_callV (M := MX11_heaviest) (L := [(11, b0, f0, s0), (7, (b0 + 8), f1, s1), (0, b2, f2, s2)]) (h := h) (j := 2) (As := []) (st := [.ref b0]) (A := fun (x : Int32) => some (.int x)) (Lc := [(0, b2, f2, s2)]) (Lr := fun (x : Int32) => [(0, b2, f2, s2)]) (L2 := fun (x : Int32) => [(11, b0, f0, s0), (7, (b0 + 8), f1, s1), (0, b2, f2, s2)]) cv_X11_256 (by decide) (pc := 28) dX11_heaviest_28 ho rfl xc0_0 rfl rfl (Nat.le_of_ble_eq_true rfl) (xovs (L := [(11, b0, f0, s0), (7, (b0 + 8), f1, s1), (0, b2, f2, s2)]) (h := h) [(2, (0, b2, f2, s2))] ho ⟨rfl, trivial⟩).1 (fun x => (xovs (L := [(11, b0, f0, s0), (7, (b0 + 8), f1, s1), (0, b2, f2, s2)]) (h := h) [(2, (0, b2, f2, s2))] ho ⟨rfl, trivial⟩).1) (fun x hx => pX0_heaviestChange_ok (h := xw [(11, b0, f0, s0), (7, (b0 + 8), f1, s1), (0, b2, f2, s2)] h) (xok_sub ho [2] rfl (by decide)) s2 x hx) rfl (fun x1 _ => ?_)
    refine x_callV (M := MX11_heaviest) (L := [(11, b0, f0, s0), (7, (b0 + 8), f1, s1), (0, b2, f2, s2)]) (h := h) (j := 0) (As := [.int x1]) (st := []) (A := fun (x : Int32 × RS) => some (.int x.1)) (Lc := [(11, b0, f0, s0)]) (Lr := fun (x : Int32 × RS) => [(11, b0, f0, x.2)]) (L2 := fun (x : Int32 × RS) => [(11, b0, f0, x.2), (7, (b0 + 8), f1, s1), (0, b2, f2, s2)]) cv_X11_169 (by decide) (pc := 31) dX11_heaviest_31 ho rfl xc0_11 rfl rfl (Nat.le_of_ble_eq_true rfl) (xovs (L := [(11, b0, f0, s0), (7, (b0 + 8), f1, s1), (0, b2, f2, s2)]) (h := h) [(0, (11, b0, f0, s0))] ho ⟨rfl, trivial⟩).1 (fun x => (xovs (L := [(11, b0, f0, s0), (7, (b0 + 8), f1, s1), (0, b2, f2, s2)]) (h := h) [(0, (11, b0, f0, x.2))] ho ⟨rfl, trivial⟩).1) (fun x hx => pX11_tell_ok (h := xw [(11, b0, f0, s0), (7, (b0 + 8), f1, s1), (0, b2, f2, s2)] h) (xok_sub ho [0] rfl (by decide)) s0 x1 x hx) rfl (fun x2 _ => ?_)
    exact s_iret (pc := 34) dX11_heaviest_34 rfl (fun _ _ q => q)
theorem pX11_heaviest_ok (ho : xok [(11, b0), (7, (b0 + 8)), (0, b2)] h.2.1) (hq_1_0 : f1 0 = some b2) (s0 : RS) (s1 : RS) (s2 : RS) : ∀ x, pX11_heaviest s0 s1 s2 = some x → aMet l 2 yX11_heaviest cX11_heaviest 1 (some .int) [.ref b0] (xw [(11, b0, f0, s0), (7, (b0 + 8), f1, s1), (0, b2, f2, s2)] h) (some (.int x.1)) (xw [(11, b0, f0, x.2), (7, (b0 + 8), f1, s1), (0, b2, f2, s2)] h) := fun x hx => a_meth (ini := false) (y := yX11_heaviest) (by decide +kernel) (fun q => by cases q) (fun _ => Nat.le_of_ble_eq_true rfl) (pX11_heaviest_w ho hq_1_0 s0 s1 s2) x hx _ _ ⟨rfl, rfl⟩
end
section
variable {l : Launch} {n0 S0 : Nat} {h : aH} {b0 b2 : Nat} {f0 f1 f2 : Nat → Option Nat}
abbrev MX11_alone : aM := (cX11_alone, RX11, 1, (some .int), false)
def pX11_alone (s0 : RS) (s1 : RS) (s2 : RS) : Option (Int32 × RS) :=
  (pX0_lonelyPuts s2).bind fun x1 =>
  (pX11_tell s0 x1).bind fun x2 =>
  some (x2.1, x2.2)
theorem pX11_alone_w (ho : xok [(11, b0), (7, (b0 + 8)), (0, b2)] h.2.1) (hq_1_0 : f1 0 = some b2) (s0 : RS) (s1 : RS) (s2 : RS) : aS l 1 MX11_alone n0 S0 (oΦ (fun (x : Int32 × RS) => ((some (.int x.1)), xw [(11, b0, f0, x.2), (7, (b0 + 8), f1, s1), (0, b2, f2, s2)] h))) 0 [(0, .ref b0)] [] (xw [(11, b0, f0, s0), (7, (b0 + 8), f1, s1), (0, b2, f2, s2)] h) (pX11_alone s0 s1 s2) := by
  unfold pX11_alone
  refine s_aload_n (pc := 0) 0 dX11_alone_0 rfl ?_
  refine s_aload_n (pc := 1) 0 dX11_alone_1 rfl ?_
  refine xg_X11_25 0 ho rfl (pc := 2) dX11_alone_2 rfl ?_
  refine xg_X11_174 1 ho rfl (pc := 5) dX11_alone_5 rfl hq_1_0 ?_
  refine x_callV (M := MX11_alone) (L := [(11, b0, f0, s0), (7, (b0 + 8), f1, s1), (0, b2, f2, s2)]) (h := h) (j := 2) (As := []) (st := [.ref b0]) (A := fun (x : Int32) => some (.int x)) (Lc := [(0, b2, f2, s2)]) (Lr := fun (x : Int32) => [(0, b2, f2, s2)]) (L2 := fun (x : Int32) => [(11, b0, f0, s0), (7, (b0 + 8), f1, s1), (0, b2, f2, s2)]) cv_X11_259 (by decide) (pc := 8) dX11_alone_8 ho rfl xc0_0 rfl rfl (Nat.le_of_ble_eq_true rfl) (xovs (L := [(11, b0, f0, s0), (7, (b0 + 8), f1, s1), (0, b2, f2, s2)]) (h := h) [(2, (0, b2, f2, s2))] ho ⟨rfl, trivial⟩).1 (fun x => (xovs (L := [(11, b0, f0, s0), (7, (b0 + 8), f1, s1), (0, b2, f2, s2)]) (h := h) [(2, (0, b2, f2, s2))] ho ⟨rfl, trivial⟩).1) (fun x hx => pX0_lonelyPuts_ok (h := xw [(11, b0, f0, s0), (7, (b0 + 8), f1, s1), (0, b2, f2, s2)] h) (xok_sub ho [2] rfl (by decide)) s2 x hx) rfl (fun x1 _ => ?_)
  refine x_callV (M := MX11_alone) (L := [(11, b0, f0, s0), (7, (b0 + 8), f1, s1), (0, b2, f2, s2)]) (h := h) (j := 0) (As := [.int x1]) (st := []) (A := fun (x : Int32 × RS) => some (.int x.1)) (Lc := [(11, b0, f0, s0)]) (Lr := fun (x : Int32 × RS) => [(11, b0, f0, x.2)]) (L2 := fun (x : Int32 × RS) => [(11, b0, f0, x.2), (7, (b0 + 8), f1, s1), (0, b2, f2, s2)]) cv_X11_169 (by decide) (pc := 11) dX11_alone_11 ho rfl xc0_11 rfl rfl (Nat.le_of_ble_eq_true rfl) (xovs (L := [(11, b0, f0, s0), (7, (b0 + 8), f1, s1), (0, b2, f2, s2)]) (h := h) [(0, (11, b0, f0, s0))] ho ⟨rfl, trivial⟩).1 (fun x => (xovs (L := [(11, b0, f0, s0), (7, (b0 + 8), f1, s1), (0, b2, f2, s2)]) (h := h) [(0, (11, b0, f0, x.2))] ho ⟨rfl, trivial⟩).1) (fun x hx => pX11_tell_ok (h := xw [(11, b0, f0, s0), (7, (b0 + 8), f1, s1), (0, b2, f2, s2)] h) (xok_sub ho [0] rfl (by decide)) s0 x1 x hx) rfl (fun x2 _ => ?_)
  exact s_iret (pc := 14) dX11_alone_14 rfl (fun _ _ q => q)
theorem pX11_alone_ok (ho : xok [(11, b0), (7, (b0 + 8)), (0, b2)] h.2.1) (hq_1_0 : f1 0 = some b2) (s0 : RS) (s1 : RS) (s2 : RS) : ∀ x, pX11_alone s0 s1 s2 = some x → aMet l 1 yX11_alone cX11_alone 1 (some .int) [.ref b0] (xw [(11, b0, f0, s0), (7, (b0 + 8), f1, s1), (0, b2, f2, s2)] h) (some (.int x.1)) (xw [(11, b0, f0, x.2), (7, (b0 + 8), f1, s1), (0, b2, f2, s2)] h) := fun x hx => a_meth (ini := false) (y := yX11_alone) (by decide +kernel) (fun q => by cases q) (fun _ => Nat.le_of_ble_eq_true rfl) (pX11_alone_w ho hq_1_0 s0 s1 s2) x hx _ _ ⟨rfl, rfl⟩
end
section
variable {l : Launch} {n0 S0 : Nat} {h : aH} {b0 b2 : Nat} {f0 f1 f2 : Nat → Option Nat}
abbrev MX11_faultOfSet : aM := (cX11_faultOfSet, RX11, 2, (some .int), false)
def pX11_faultOfSet (s0 : RS) (s1 : RS) (s2 : RS) (a0 : Int32) : Option Int32 :=
  (pX0_isSet s2 a0).bind fun x1 =>
  if x1 = true then
    (pX0_isClosed s2 a0).bind fun x2 =>
    if x2 = true then
      some (0 : Int32)
    else
      some (9 : Int32)
  else
    some (2 : Int32)
theorem pX11_faultOfSet_w (ho : xok [(11, b0), (7, (b0 + 8)), (0, b2)] h.2.1) (hq_1_0 : f1 0 = some b2) (s0 : RS) (s1 : RS) (s2 : RS) (a0 : Int32) : aS l 3 MX11_faultOfSet n0 S0 (oΦ (fun (x : Int32) => ((some (.int x)), xw [(11, b0, f0, s0), (7, (b0 + 8), f1, s1), (0, b2, f2, s2)] h))) 0 [(0, .ref b0), (1, .int a0)] [] (xw [(11, b0, f0, s0), (7, (b0 + 8), f1, s1), (0, b2, f2, s2)] h) (pX11_faultOfSet s0 s1 s2 a0) := by
  unfold pX11_faultOfSet
  refine s_aload_n (pc := 0) 0 dX11_faultOfSet_0 rfl ?_
  refine xg_X11_25 0 ho rfl (pc := 1) dX11_faultOfSet_1 rfl ?_
  refine xg_X11_174 1 ho rfl (pc := 4) dX11_faultOfSet_4 rfl hq_1_0 ?_
  refine s_iload_n (pc := 7) 1 dX11_faultOfSet_7 rfl ?_
  refine x_callV (M := MX11_faultOfSet) (L := [(11, b0, f0, s0), (7, (b0 + 8), f1, s1), (0, b2, f2, s2)]) (h := h) (j := 2) (As := [.int a0]) (st := []) (A := fun (x : Bool) => some (.int (b2i x))) (Lc := [(0, b2, f2, s2)]) (Lr := fun (x : Bool) => [(0, b2, f2, s2)]) (L2 := fun (x : Bool) => [(11, b0, f0, s0), (7, (b0 + 8), f1, s1), (0, b2, f2, s2)]) cv_X11_241 (by decide) (pc := 8) dX11_faultOfSet_8 ho rfl xc0_0 rfl rfl (Nat.le_of_ble_eq_true rfl) (xovs (L := [(11, b0, f0, s0), (7, (b0 + 8), f1, s1), (0, b2, f2, s2)]) (h := h) [(2, (0, b2, f2, s2))] ho ⟨rfl, trivial⟩).1 (fun x => (xovs (L := [(11, b0, f0, s0), (7, (b0 + 8), f1, s1), (0, b2, f2, s2)]) (h := h) [(2, (0, b2, f2, s2))] ho ⟨rfl, trivial⟩).1) (fun x hx => pX0_isSet_ok (h := xw [(11, b0, f0, s0), (7, (b0 + 8), f1, s1), (0, b2, f2, s2)] h) (xok_sub ho [2] rfl (by decide)) s2 a0 x hx) rfl (fun x1 _ => ?_)
  refine s_if_neB (tgt := 16) (pc := 11) dX11_faultOfSet_11 (by decide) (fun _ => ?_) (fun _ => ?_)
  · refine s_aload_n (pc := 16) 0 dX11_faultOfSet_16 rfl ?_
    refine xg_X11_25 0 ho rfl (pc := 17) dX11_faultOfSet_17 rfl ?_
    refine xg_X11_174 1 ho rfl (pc := 20) dX11_faultOfSet_20 rfl hq_1_0 ?_
    refine s_iload_n (pc := 23) 1 dX11_faultOfSet_23 rfl ?_
    refine x_callV (M := MX11_faultOfSet) (L := [(11, b0, f0, s0), (7, (b0 + 8), f1, s1), (0, b2, f2, s2)]) (h := h) (j := 2) (As := [.int a0]) (st := []) (A := fun (x : Bool) => some (.int (b2i x))) (Lc := [(0, b2, f2, s2)]) (Lr := fun (x : Bool) => [(0, b2, f2, s2)]) (L2 := fun (x : Bool) => [(11, b0, f0, s0), (7, (b0 + 8), f1, s1), (0, b2, f2, s2)]) cv_X11_244 (by decide) (pc := 24) dX11_faultOfSet_24 ho rfl xc0_0 rfl rfl (Nat.le_of_ble_eq_true rfl) (xovs (L := [(11, b0, f0, s0), (7, (b0 + 8), f1, s1), (0, b2, f2, s2)]) (h := h) [(2, (0, b2, f2, s2))] ho ⟨rfl, trivial⟩).1 (fun x => (xovs (L := [(11, b0, f0, s0), (7, (b0 + 8), f1, s1), (0, b2, f2, s2)]) (h := h) [(2, (0, b2, f2, s2))] ho ⟨rfl, trivial⟩).1) (fun x hx => pX0_isClosed_ok (h := xw [(11, b0, f0, s0), (7, (b0 + 8), f1, s1), (0, b2, f2, s2)] h) (xok_sub ho [2] rfl (by decide)) s2 a0 x hx) rfl (fun x2 _ => ?_)
    refine s_if_eqB (tgt := 34) (pc := 27) dX11_faultOfSet_27 (by decide) (fun _ => ?_) (fun _ => ?_)
    · refine s_iconst (v := 0) (pc := 30) dX11_faultOfSet_30 (by decide) ?_
      refine s_goto (tgt := 36) (pc := 31) dX11_faultOfSet_31 (by decide) ?_
      exact s_iret (pc := 36) dX11_faultOfSet_36 rfl (fun _ _ q => q)
    · refine s_bipush (v := 9) (pc := 34) dX11_faultOfSet_34 (by decide) ?_
      exact s_iret (pc := 36) dX11_faultOfSet_36 rfl (fun _ _ q => q)
  · refine s_iconst (v := 2) (pc := 14) dX11_faultOfSet_14 (by decide) ?_
    exact s_iret (pc := 15) dX11_faultOfSet_15 rfl (fun _ _ q => q)
theorem pX11_faultOfSet_ok (ho : xok [(11, b0), (7, (b0 + 8)), (0, b2)] h.2.1) (hq_1_0 : f1 0 = some b2) (s0 : RS) (s1 : RS) (s2 : RS) (a0 : Int32) : ∀ x, pX11_faultOfSet s0 s1 s2 a0 = some x → aMet l 3 yX11_faultOfSet cX11_faultOfSet 2 (some .int) [.ref b0, .int a0] (xw [(11, b0, f0, s0), (7, (b0 + 8), f1, s1), (0, b2, f2, s2)] h) (some (.int x)) (xw [(11, b0, f0, s0), (7, (b0 + 8), f1, s1), (0, b2, f2, s2)] h) := fun x hx => a_meth (ini := false) (y := yX11_faultOfSet) (by decide +kernel) (fun q => by cases q) (fun _ => Nat.le_of_ble_eq_true rfl) (pX11_faultOfSet_w ho hq_1_0 s0 s1 s2 a0) x hx _ _ ⟨rfl, rfl⟩
end
section
variable {l : Launch} {n0 S0 : Nat} {h : aH} {b0 b2 : Nat} {f0 f1 f2 f3 : Nat → Option Nat}
abbrev MX11_size : aM := (cX11_size, RX11, 3, (some .int), false)
def pX11_size (s0 : RS) (s1 : RS) (s2 : RS) (s3 : RS) (a0 : Int32) : Option (Int32 × RS × RS) :=
  (pX11_faultOfSet s0 s1 s2 a0).bind fun x1 =>
  if x1 = 0 then
    (pX2_fill s3 s2 a0).bind fun x2 =>
    (pX11_tell s0 (x2.1 0)).bind fun x3 =>
    some (x3.1, x3.2, x2)
  else
    (pX11_refuse s0 x1).bind fun x4 =>
    some (x4.1, x4.2, s3)
theorem pX11_size_w (ho : xok [(11, b0), (7, (b0 + 8)), (0, b2), (2, (b0 + 26))] h.2.1) (hq_1_0 : f1 0 = some b2) (s0 : RS) (s1 : RS) (s2 : RS) (s3 : RS) (a0 : Int32) : aS l 4 MX11_size n0 S0 (oΦ (fun (x : Int32 × RS × RS) => ((some (.int x.1)), xw [(11, b0, f0, x.2.1), (7, (b0 + 8), f1, s1), (0, b2, f2, s2), (2, (b0 + 26), f3, x.2.2)] h))) 0 [(0, .ref b0), (1, .int a0)] [] (xw [(11, b0, f0, s0), (7, (b0 + 8), f1, s1), (0, b2, f2, s2), (2, (b0 + 26), f3, s3)] h) (pX11_size s0 s1 s2 s3 a0) := by
  unfold pX11_size
  refine s_aload_n (pc := 0) 0 dX11_size_0 rfl ?_
  refine s_iload_n (pc := 1) 1 dX11_size_1 rfl ?_
  refine x_callV (M := MX11_size) (L := [(11, b0, f0, s0), (7, (b0 + 8), f1, s1), (0, b2, f2, s2), (2, (b0 + 26), f3, s3)]) (h := h) (j := 0) (As := [.int a0]) (st := []) (A := fun (x : Int32) => some (.int x)) (Lc := [(11, b0, f0, s0), (7, (b0 + 8), f1, s1), (0, b2, f2, s2)]) (Lr := fun (x : Int32) => [(11, b0, f0, s0), (7, (b0 + 8), f1, s1), (0, b2, f2, s2)]) (L2 := fun (x : Int32) => [(11, b0, f0, s0), (7, (b0 + 8), f1, s1), (0, b2, f2, s2), (2, (b0 + 26), f3, s3)]) cv_X11_262 (by decide) (pc := 2) dX11_size_2 ho rfl xc0_11 rfl rfl (Nat.le_of_ble_eq_true rfl) (xovs (L := [(11, b0, f0, s0), (7, (b0 + 8), f1, s1), (0, b2, f2, s2), (2, (b0 + 26), f3, s3)]) (h := h) [(0, (11, b0, f0, s0)), (1, (7, (b0 + 8), f1, s1)), (2, (0, b2, f2, s2))] ho ⟨rfl, rfl, rfl, trivial⟩).1 (fun x => (xovs (L := [(11, b0, f0, s0), (7, (b0 + 8), f1, s1), (0, b2, f2, s2), (2, (b0 + 26), f3, s3)]) (h := h) [(0, (11, b0, f0, s0)), (1, (7, (b0 + 8), f1, s1)), (2, (0, b2, f2, s2))] ho ⟨rfl, rfl, rfl, trivial⟩).1) (fun x hx => pX11_faultOfSet_ok (h := xw [(11, b0, f0, s0), (7, (b0 + 8), f1, s1), (0, b2, f2, s2), (2, (b0 + 26), f3, s3)] h) (xok_sub ho [0, 1, 2] rfl (by decide)) hq_1_0 s0 s1 s2 a0 x hx) rfl (fun x1 _ => ?_)
  refine s_istore_n (lv' := [(2, .int x1), (0, .ref b0), (1, .int a0)]) (pc := 5) dX11_size_5 (by decide) rfl ?_
  refine s_iload_n (pc := 6) 0 dX11_size_6 rfl ?_
  refine s_if_eq (tgt := 16) (pc := 7) dX11_size_7 (by decide) (fun _ => ?_) (fun _ => ?_)
  · refine s_aload_n (pc := 16) 1 dX11_size_16 rfl ?_
    refine xg_X11_36 0 ho rfl (pc := 17) dX11_size_17 rfl ?_
    refine s_aload_n (pc := 20) 1 dX11_size_20 rfl ?_
    refine xg_X11_25 0 ho rfl (pc := 21) dX11_size_21 rfl ?_
    refine xg_X11_174 1 ho rfl (pc := 24) dX11_size_24 rfl hq_1_0 ?_
    refine s_iload_n (pc := 27) 2 dX11_size_27 rfl ?_
    refine x_callV (M := MX11_size) (L := [(11, b0, f0, s0), (7, (b0 + 8), f1, s1), (0, b2, f2, s2), (2, (b0 + 26), f3, s3)]) (h := h) (j := 3) (As := [.ref b2, .int a0]) (st := []) (A := fun (x : RS) => none) (Lc := [(2, (b0 + 26), f3, s3), (0, b2, f2, s2)]) (Lr := fun (x : RS) => [(2, (b0 + 26), f3, x), (0, b2, f2, s2)]) (L2 := fun (x : RS) => [(11, b0, f0, s0), (7, (b0 + 8), f1, s1), (0, b2, f2, s2), (2, (b0 + 26), f3, x)]) cv_X11_265 (by decide) (pc := 28) dX11_size_28 ho rfl xc0_2 rfl rfl (Nat.le_of_ble_eq_true rfl) (xovs (L := [(11, b0, f0, s0), (7, (b0 + 8), f1, s1), (0, b2, f2, s2), (2, (b0 + 26), f3, s3)]) (h := h) [(3, (2, (b0 + 26), f3, s3)), (2, (0, b2, f2, s2))] ho ⟨rfl, rfl, trivial⟩).1 (fun x => (xovs (L := [(11, b0, f0, s0), (7, (b0 + 8), f1, s1), (0, b2, f2, s2), (2, (b0 + 26), f3, s3)]) (h := h) [(3, (2, (b0 + 26), f3, x)), (2, (0, b2, f2, s2))] ho ⟨rfl, rfl, trivial⟩).1) (fun x hx => pX2_fill_ok (h := xw [(11, b0, f0, s0), (7, (b0 + 8), f1, s1), (0, b2, f2, s2), (2, (b0 + 26), f3, s3)] h) (xok_sub ho [3, 2] rfl (by decide)) s3 s2 a0 x hx) rfl (fun x2 _ => ?_)
    refine s_aload_n (pc := 31) 1 dX11_size_31 rfl ?_
    refine s_aload_n (pc := 32) 1 dX11_size_32 rfl ?_
    refine xg_X11_36 0 ho rfl (pc := 33) dX11_size_33 rfl ?_
    refine xg_X11_269 3 ho rfl (pc := 36) dX11_size_36 rfl ?_
    refine x_callV (M := MX11_size) (L := [(11, b0, f0, s0), (7, (b0 + 8), f1, s1), (0, b2, f2, s2), (2, (b0 + 26), f3, x2)]) (h := h) (j := 0) (As := [.int (x2.1 0)]) (st := []) (A := fun (x : Int32 × RS) => some (.int x.1)) (Lc := [(11, b0, f0, s0)]) (Lr := fun (x : Int32 × RS) => [(11, b0, f0, x.2)]) (L2 := fun (x : Int32 × RS) => [(11, b0, f0, x.2), (7, (b0 + 8), f1, s1), (0, b2, f2, s2), (2, (b0 + 26), f3, x2)]) cv_X11_169 (by decide) (pc := 39) dX11_size_39 ho rfl xc0_11 rfl rfl (Nat.le_of_ble_eq_true rfl) (xovs (L := [(11, b0, f0, s0), (7, (b0 + 8), f1, s1), (0, b2, f2, s2), (2, (b0 + 26), f3, x2)]) (h := h) [(0, (11, b0, f0, s0))] ho ⟨rfl, trivial⟩).1 (fun x => (xovs (L := [(11, b0, f0, s0), (7, (b0 + 8), f1, s1), (0, b2, f2, s2), (2, (b0 + 26), f3, x2)]) (h := h) [(0, (11, b0, f0, x.2))] ho ⟨rfl, trivial⟩).1) (fun x hx => pX11_tell_ok (h := xw [(11, b0, f0, s0), (7, (b0 + 8), f1, s1), (0, b2, f2, s2), (2, (b0 + 26), f3, x2)] h) (xok_sub ho [0] rfl (by decide)) s0 (x2.1 0) x hx) rfl (fun x3 _ => ?_)
    exact s_iret (pc := 42) dX11_size_42 rfl (fun _ _ q => q)
  · refine s_aload_n (pc := 10) 1 dX11_size_10 rfl ?_
    refine s_iload_n (pc := 11) 0 dX11_size_11 rfl ?_
    refine x_callV (M := MX11_size) (L := [(11, b0, f0, s0), (7, (b0 + 8), f1, s1), (0, b2, f2, s2), (2, (b0 + 26), f3, s3)]) (h := h) (j := 0) (As := [.int x1]) (st := []) (A := fun (x : Int32 × RS) => some (.int x.1)) (Lc := [(11, b0, f0, s0)]) (Lr := fun (x : Int32 × RS) => [(11, b0, f0, x.2)]) (L2 := fun (x : Int32 × RS) => [(11, b0, f0, x.2), (7, (b0 + 8), f1, s1), (0, b2, f2, s2), (2, (b0 + 26), f3, s3)]) cv_X11_113 (by decide) (pc := 12) dX11_size_12 ho rfl xc0_11 rfl rfl (Nat.le_of_ble_eq_true rfl) (xovs (L := [(11, b0, f0, s0), (7, (b0 + 8), f1, s1), (0, b2, f2, s2), (2, (b0 + 26), f3, s3)]) (h := h) [(0, (11, b0, f0, s0))] ho ⟨rfl, trivial⟩).1 (fun x => (xovs (L := [(11, b0, f0, s0), (7, (b0 + 8), f1, s1), (0, b2, f2, s2), (2, (b0 + 26), f3, s3)]) (h := h) [(0, (11, b0, f0, x.2))] ho ⟨rfl, trivial⟩).1) (fun x hx => pX11_refuse_ok (h := xw [(11, b0, f0, s0), (7, (b0 + 8), f1, s1), (0, b2, f2, s2), (2, (b0 + 26), f3, s3)] h) (xok_sub ho [0] rfl (by decide)) s0 x1 x hx) rfl (fun x4 _ => ?_)
    exact s_iret (pc := 15) dX11_size_15 rfl (fun _ _ q => q)
theorem pX11_size_ok (ho : xok [(11, b0), (7, (b0 + 8)), (0, b2), (2, (b0 + 26))] h.2.1) (hq_1_0 : f1 0 = some b2) (s0 : RS) (s1 : RS) (s2 : RS) (s3 : RS) (a0 : Int32) : ∀ x, pX11_size s0 s1 s2 s3 a0 = some x → aMet l 4 yX11_size cX11_size 3 (some .int) [.ref b0, .int a0] (xw [(11, b0, f0, s0), (7, (b0 + 8), f1, s1), (0, b2, f2, s2), (2, (b0 + 26), f3, s3)] h) (some (.int x.1)) (xw [(11, b0, f0, x.2.1), (7, (b0 + 8), f1, s1), (0, b2, f2, s2), (2, (b0 + 26), f3, x.2.2)] h) := fun x hx => a_meth (ini := false) (y := yX11_size) (by decide +kernel) (fun q => by cases q) (fun _ => Nat.le_of_ble_eq_true rfl) (pX11_size_w ho hq_1_0 s0 s1 s2 s3 a0) x hx _ _ ⟨rfl, rfl⟩
end
section
variable {l : Launch} {n0 S0 : Nat} {h : aH} {b0 b2 : Nat} {f0 f1 f2 f3 : Nat → Option Nat}
abbrev MX11_thing : aM := (cX11_thing, RX11, 4, (some .int), false)
def pX11_thing (s0 : RS) (s1 : RS) (s2 : RS) (s3 : RS) (a0 : Int32) (a1 : Int32) : Option (Int32 × RS × RS) :=
  (pX11_faultOfSet s0 s1 s2 a0).bind fun x1 =>
  if x1 = 0 then
    (pX2_fill s3 s2 a0).bind fun x2 =>
    (pX2_isPlace x2 a1).bind fun x3 =>
    if x3 = true then
      g_in a1 16 (
      (pX11_tell s0 (x2.2.2.1 1 a1.toNatClampNeg)).bind fun x4 =>
      some (x4.1, x4.2, x2))
    else
      (pX11_refuse s0 (8 : Int32)).bind fun x5 =>
      some (x5.1, x5.2, x2)
  else
    (pX11_refuse s0 x1).bind fun x6 =>
    some (x6.1, x6.2, s3)
theorem pX11_thing_w (ho : xok [(11, b0), (7, (b0 + 8)), (0, b2), (2, (b0 + 26))] h.2.1) (hq_1_0 : f1 0 = some b2) (s0 : RS) (s1 : RS) (s2 : RS) (s3 : RS) (a0 : Int32) (a1 : Int32) : aS l 4 MX11_thing n0 S0 (oΦ (fun (x : Int32 × RS × RS) => ((some (.int x.1)), xw [(11, b0, f0, x.2.1), (7, (b0 + 8), f1, s1), (0, b2, f2, s2), (2, (b0 + 26), f3, x.2.2)] h))) 0 [(0, .ref b0), (1, .int a0), (2, .int a1)] [] (xw [(11, b0, f0, s0), (7, (b0 + 8), f1, s1), (0, b2, f2, s2), (2, (b0 + 26), f3, s3)] h) (pX11_thing s0 s1 s2 s3 a0 a1) := by
  unfold pX11_thing
  refine s_aload_n (pc := 0) 0 dX11_thing_0 rfl ?_
  refine s_iload_n (pc := 1) 1 dX11_thing_1 rfl ?_
  refine x_callV (M := MX11_thing) (L := [(11, b0, f0, s0), (7, (b0 + 8), f1, s1), (0, b2, f2, s2), (2, (b0 + 26), f3, s3)]) (h := h) (j := 0) (As := [.int a0]) (st := []) (A := fun (x : Int32) => some (.int x)) (Lc := [(11, b0, f0, s0), (7, (b0 + 8), f1, s1), (0, b2, f2, s2)]) (Lr := fun (x : Int32) => [(11, b0, f0, s0), (7, (b0 + 8), f1, s1), (0, b2, f2, s2)]) (L2 := fun (x : Int32) => [(11, b0, f0, s0), (7, (b0 + 8), f1, s1), (0, b2, f2, s2), (2, (b0 + 26), f3, s3)]) cv_X11_262 (by decide) (pc := 2) dX11_thing_2 ho rfl xc0_11 rfl rfl (Nat.le_of_ble_eq_true rfl) (xovs (L := [(11, b0, f0, s0), (7, (b0 + 8), f1, s1), (0, b2, f2, s2), (2, (b0 + 26), f3, s3)]) (h := h) [(0, (11, b0, f0, s0)), (1, (7, (b0 + 8), f1, s1)), (2, (0, b2, f2, s2))] ho ⟨rfl, rfl, rfl, trivial⟩).1 (fun x => (xovs (L := [(11, b0, f0, s0), (7, (b0 + 8), f1, s1), (0, b2, f2, s2), (2, (b0 + 26), f3, s3)]) (h := h) [(0, (11, b0, f0, s0)), (1, (7, (b0 + 8), f1, s1)), (2, (0, b2, f2, s2))] ho ⟨rfl, rfl, rfl, trivial⟩).1) (fun x hx => pX11_faultOfSet_ok (h := xw [(11, b0, f0, s0), (7, (b0 + 8), f1, s1), (0, b2, f2, s2), (2, (b0 + 26), f3, s3)] h) (xok_sub ho [0, 1, 2] rfl (by decide)) hq_1_0 s0 s1 s2 a0 x hx) rfl (fun x1 _ => ?_)
  refine s_istore_n (lv' := [(3, .int x1), (0, .ref b0), (1, .int a0), (2, .int a1)]) (pc := 5) dX11_thing_5 (by decide) rfl ?_
  refine s_iload_n (pc := 6) 0 dX11_thing_6 rfl ?_
  refine s_if_eq (tgt := 16) (pc := 7) dX11_thing_7 (by decide) (fun _ => ?_) (fun _ => ?_)
  · refine s_aload_n (pc := 16) 1 dX11_thing_16 rfl ?_
    refine xg_X11_36 0 ho rfl (pc := 17) dX11_thing_17 rfl ?_
    refine s_aload_n (pc := 20) 1 dX11_thing_20 rfl ?_
    refine xg_X11_25 0 ho rfl (pc := 21) dX11_thing_21 rfl ?_
    refine xg_X11_174 1 ho rfl (pc := 24) dX11_thing_24 rfl hq_1_0 ?_
    refine s_iload_n (pc := 27) 2 dX11_thing_27 rfl ?_
    refine x_callV (M := MX11_thing) (L := [(11, b0, f0, s0), (7, (b0 + 8), f1, s1), (0, b2, f2, s2), (2, (b0 + 26), f3, s3)]) (h := h) (j := 3) (As := [.ref b2, .int a0]) (st := []) (A := fun (x : RS) => none) (Lc := [(2, (b0 + 26), f3, s3), (0, b2, f2, s2)]) (Lr := fun (x : RS) => [(2, (b0 + 26), f3, x), (0, b2, f2, s2)]) (L2 := fun (x : RS) => [(11, b0, f0, s0), (7, (b0 + 8), f1, s1), (0, b2, f2, s2), (2, (b0 + 26), f3, x)]) cv_X11_265 (by decide) (pc := 28) dX11_thing_28 ho rfl xc0_2 rfl rfl (Nat.le_of_ble_eq_true rfl) (xovs (L := [(11, b0, f0, s0), (7, (b0 + 8), f1, s1), (0, b2, f2, s2), (2, (b0 + 26), f3, s3)]) (h := h) [(3, (2, (b0 + 26), f3, s3)), (2, (0, b2, f2, s2))] ho ⟨rfl, rfl, trivial⟩).1 (fun x => (xovs (L := [(11, b0, f0, s0), (7, (b0 + 8), f1, s1), (0, b2, f2, s2), (2, (b0 + 26), f3, s3)]) (h := h) [(3, (2, (b0 + 26), f3, x)), (2, (0, b2, f2, s2))] ho ⟨rfl, rfl, trivial⟩).1) (fun x hx => pX2_fill_ok (h := xw [(11, b0, f0, s0), (7, (b0 + 8), f1, s1), (0, b2, f2, s2), (2, (b0 + 26), f3, s3)] h) (xok_sub ho [3, 2] rfl (by decide)) s3 s2 a0 x hx) rfl (fun x2 _ => ?_)
    refine s_aload_n (pc := 31) 1 dX11_thing_31 rfl ?_
    refine xg_X11_36 0 ho rfl (pc := 32) dX11_thing_32 rfl ?_
    refine s_iload_n (pc := 35) 3 dX11_thing_35 rfl ?_
    refine x_callV (M := MX11_thing) (L := [(11, b0, f0, s0), (7, (b0 + 8), f1, s1), (0, b2, f2, s2), (2, (b0 + 26), f3, x2)]) (h := h) (j := 3) (As := [.int a1]) (st := []) (A := fun (x : Bool) => some (.int (b2i x))) (Lc := [(2, (b0 + 26), f3, x2)]) (Lr := fun (x : Bool) => [(2, (b0 + 26), f3, x2)]) (L2 := fun (x : Bool) => [(11, b0, f0, s0), (7, (b0 + 8), f1, s1), (0, b2, f2, s2), (2, (b0 + 26), f3, x2)]) cv_X11_272 (by decide) (pc := 36) dX11_thing_36 ho rfl xc0_2 rfl rfl (Nat.le_of_ble_eq_true rfl) (xovs (L := [(11, b0, f0, s0), (7, (b0 + 8), f1, s1), (0, b2, f2, s2), (2, (b0 + 26), f3, x2)]) (h := h) [(3, (2, (b0 + 26), f3, x2))] ho ⟨rfl, trivial⟩).1 (fun x => (xovs (L := [(11, b0, f0, s0), (7, (b0 + 8), f1, s1), (0, b2, f2, s2), (2, (b0 + 26), f3, x2)]) (h := h) [(3, (2, (b0 + 26), f3, x2))] ho ⟨rfl, trivial⟩).1) (fun x hx => pX2_isPlace_ok (h := xw [(11, b0, f0, s0), (7, (b0 + 8), f1, s1), (0, b2, f2, s2), (2, (b0 + 26), f3, x2)] h) (xok_sub ho [3] rfl (by decide)) x2 a1 x hx) rfl (fun x3 _ => ?_)
    refine s_if_neB (tgt := 49) (pc := 39) dX11_thing_39 (by decide) (fun _ => ?_) (fun _ => ?_)
    · refine s_aload_n (pc := 49) 1 dX11_thing_49 rfl ?_
      refine s_aload_n (pc := 50) 1 dX11_thing_50 rfl ?_
      refine xg_X11_36 0 ho rfl (pc := 51) dX11_thing_51 rfl ?_
      refine xg_X11_275 3 ho rfl (pc := 54) dX11_thing_54 rfl ?_
      refine s_iload_n (pc := 57) 3 dX11_thing_57 rfl ?_
      refine xl_2_1 3 ho rfl (pc := 58) dX11_thing_58 ?_
      refine x_callV (M := MX11_thing) (L := [(11, b0, f0, s0), (7, (b0 + 8), f1, s1), (0, b2, f2, s2), (2, (b0 + 26), f3, x2)]) (h := h) (j := 0) (As := [.int (x2.2.2.1 1 a1.toNatClampNeg)]) (st := []) (A := fun (x : Int32 × RS) => some (.int x.1)) (Lc := [(11, b0, f0, s0)]) (Lr := fun (x : Int32 × RS) => [(11, b0, f0, x.2)]) (L2 := fun (x : Int32 × RS) => [(11, b0, f0, x.2), (7, (b0 + 8), f1, s1), (0, b2, f2, s2), (2, (b0 + 26), f3, x2)]) cv_X11_169 (by decide) (pc := 59) dX11_thing_59 ho rfl xc0_11 rfl rfl (Nat.le_of_ble_eq_true rfl) (xovs (L := [(11, b0, f0, s0), (7, (b0 + 8), f1, s1), (0, b2, f2, s2), (2, (b0 + 26), f3, x2)]) (h := h) [(0, (11, b0, f0, s0))] ho ⟨rfl, trivial⟩).1 (fun x => (xovs (L := [(11, b0, f0, s0), (7, (b0 + 8), f1, s1), (0, b2, f2, s2), (2, (b0 + 26), f3, x2)]) (h := h) [(0, (11, b0, f0, x.2))] ho ⟨rfl, trivial⟩).1) (fun x hx => pX11_tell_ok (h := xw [(11, b0, f0, s0), (7, (b0 + 8), f1, s1), (0, b2, f2, s2), (2, (b0 + 26), f3, x2)] h) (xok_sub ho [0] rfl (by decide)) s0 (x2.2.2.1 1 a1.toNatClampNeg) x hx) rfl (fun x4 _ => ?_)
      exact s_iret (pc := 62) dX11_thing_62 rfl (fun _ _ q => q)
    · refine s_aload_n (pc := 42) 1 dX11_thing_42 rfl ?_
      refine s_bipush (v := 8) (pc := 43) dX11_thing_43 (by decide) ?_
      refine x_callV (M := MX11_thing) (L := [(11, b0, f0, s0), (7, (b0 + 8), f1, s1), (0, b2, f2, s2), (2, (b0 + 26), f3, x2)]) (h := h) (j := 0) (As := [.int 8]) (st := []) (A := fun (x : Int32 × RS) => some (.int x.1)) (Lc := [(11, b0, f0, s0)]) (Lr := fun (x : Int32 × RS) => [(11, b0, f0, x.2)]) (L2 := fun (x : Int32 × RS) => [(11, b0, f0, x.2), (7, (b0 + 8), f1, s1), (0, b2, f2, s2), (2, (b0 + 26), f3, x2)]) cv_X11_113 (by decide) (pc := 45) dX11_thing_45 ho rfl xc0_11 rfl rfl (Nat.le_of_ble_eq_true rfl) (xovs (L := [(11, b0, f0, s0), (7, (b0 + 8), f1, s1), (0, b2, f2, s2), (2, (b0 + 26), f3, x2)]) (h := h) [(0, (11, b0, f0, s0))] ho ⟨rfl, trivial⟩).1 (fun x => (xovs (L := [(11, b0, f0, s0), (7, (b0 + 8), f1, s1), (0, b2, f2, s2), (2, (b0 + 26), f3, x2)]) (h := h) [(0, (11, b0, f0, x.2))] ho ⟨rfl, trivial⟩).1) (fun x hx => pX11_refuse_ok (h := xw [(11, b0, f0, s0), (7, (b0 + 8), f1, s1), (0, b2, f2, s2), (2, (b0 + 26), f3, x2)] h) (xok_sub ho [0] rfl (by decide)) s0 (8 : Int32) x hx) rfl (fun x5 _ => ?_)
      exact s_iret (pc := 48) dX11_thing_48 rfl (fun _ _ q => q)
  · refine s_aload_n (pc := 10) 1 dX11_thing_10 rfl ?_
    refine s_iload_n (pc := 11) 0 dX11_thing_11 rfl ?_
    refine x_callV (M := MX11_thing) (L := [(11, b0, f0, s0), (7, (b0 + 8), f1, s1), (0, b2, f2, s2), (2, (b0 + 26), f3, s3)]) (h := h) (j := 0) (As := [.int x1]) (st := []) (A := fun (x : Int32 × RS) => some (.int x.1)) (Lc := [(11, b0, f0, s0)]) (Lr := fun (x : Int32 × RS) => [(11, b0, f0, x.2)]) (L2 := fun (x : Int32 × RS) => [(11, b0, f0, x.2), (7, (b0 + 8), f1, s1), (0, b2, f2, s2), (2, (b0 + 26), f3, s3)]) cv_X11_113 (by decide) (pc := 12) dX11_thing_12 ho rfl xc0_11 rfl rfl (Nat.le_of_ble_eq_true rfl) (xovs (L := [(11, b0, f0, s0), (7, (b0 + 8), f1, s1), (0, b2, f2, s2), (2, (b0 + 26), f3, s3)]) (h := h) [(0, (11, b0, f0, s0))] ho ⟨rfl, trivial⟩).1 (fun x => (xovs (L := [(11, b0, f0, s0), (7, (b0 + 8), f1, s1), (0, b2, f2, s2), (2, (b0 + 26), f3, s3)]) (h := h) [(0, (11, b0, f0, x.2))] ho ⟨rfl, trivial⟩).1) (fun x hx => pX11_refuse_ok (h := xw [(11, b0, f0, s0), (7, (b0 + 8), f1, s1), (0, b2, f2, s2), (2, (b0 + 26), f3, s3)] h) (xok_sub ho [0] rfl (by decide)) s0 x1 x hx) rfl (fun x6 _ => ?_)
    exact s_iret (pc := 15) dX11_thing_15 rfl (fun _ _ q => q)
theorem pX11_thing_ok (ho : xok [(11, b0), (7, (b0 + 8)), (0, b2), (2, (b0 + 26))] h.2.1) (hq_1_0 : f1 0 = some b2) (s0 : RS) (s1 : RS) (s2 : RS) (s3 : RS) (a0 : Int32) (a1 : Int32) : ∀ x, pX11_thing s0 s1 s2 s3 a0 a1 = some x → aMet l 4 yX11_thing cX11_thing 4 (some .int) [.ref b0, .int a0, .int a1] (xw [(11, b0, f0, s0), (7, (b0 + 8), f1, s1), (0, b2, f2, s2), (2, (b0 + 26), f3, s3)] h) (some (.int x.1)) (xw [(11, b0, f0, x.2.1), (7, (b0 + 8), f1, s1), (0, b2, f2, s2), (2, (b0 + 26), f3, x.2.2)] h) := fun x hx => a_meth (ini := false) (y := yX11_thing) (by decide +kernel) (fun q => by cases q) (fun _ => Nat.le_of_ble_eq_true rfl) (pX11_thing_w ho hq_1_0 s0 s1 s2 s3 a0 a1) x hx _ _ ⟨rfl, rfl⟩
end
section
variable {l : Launch} {n0 S0 : Nat} {h : aH} {b0 b2 : Nat} {f0 f1 f2 f3 : Nat → Option Nat}
abbrev MX11_findThing : aM := (cX11_findThing, RX11, 4, (some .int), false)
def X11_findThing_j28 (s0 : RS) (s1 : RS) (s2 : RS) (s3 : RS) : Option (Int32 × RS × RS) :=
  (pX11_refuse s0 (2 : Int32)).bind fun x2 =>
  some (x2.1, x2.2, s3)
theorem X11_findThing_j28_ok (ho : xok [(11, b0), (7, (b0 + 8)), (0, b2), (2, (b0 + 26))] h.2.1) (hq_1_0 : f1 0 = some b2) (s0 : RS) (s1 : RS) (s2 : RS) (s3 : RS) : aS l 4 MX11_findThing n0 S0 (oΦ (fun (x : Int32 × RS × RS) => ((some (.int x.1)), xw [(11, b0, f0, x.2.1), (7, (b0 + 8), f1, s1), (0, b2, f2, s2), (2, (b0 + 26), f3, x.2.2)] h))) 28 [(0, .ref b0)] [] (xw [(11, b0, f0, s0), (7, (b0 + 8), f1, s1), (0, b2, f2, s2), (2, (b0 + 26), f3, s3)] h) (X11_findThing_j28 s0 s1 s2 s3) := by
  unfold X11_findThing_j28
  refine s_aload_n (pc := 28) 0 dX11_findThing_28 rfl ?_
  refine s_iconst (v := 2) (pc := 29) dX11_findThing_29 (by decide) ?_
  refine x_callV (M := MX11_findThing) (L := [(11, b0, f0, s0), (7, (b0 + 8), f1, s1), (0, b2, f2, s2), (2, (b0 + 26), f3, s3)]) (h := h) (j := 0) (As := [.int 2]) (st := []) (A := fun (x : Int32 × RS) => some (.int x.1)) (Lc := [(11, b0, f0, s0)]) (Lr := fun (x : Int32 × RS) => [(11, b0, f0, x.2)]) (L2 := fun (x : Int32 × RS) => [(11, b0, f0, x.2), (7, (b0 + 8), f1, s1), (0, b2, f2, s2), (2, (b0 + 26), f3, s3)]) cv_X11_113 (by decide) (pc := 30) dX11_findThing_30 ho rfl xc0_11 rfl rfl (Nat.le_of_ble_eq_true rfl) (xovs (L := [(11, b0, f0, s0), (7, (b0 + 8), f1, s1), (0, b2, f2, s2), (2, (b0 + 26), f3, s3)]) (h := h) [(0, (11, b0, f0, s0))] ho ⟨rfl, trivial⟩).1 (fun x => (xovs (L := [(11, b0, f0, s0), (7, (b0 + 8), f1, s1), (0, b2, f2, s2), (2, (b0 + 26), f3, s3)]) (h := h) [(0, (11, b0, f0, x.2))] ho ⟨rfl, trivial⟩).1) (fun x hx => pX11_refuse_ok (h := xw [(11, b0, f0, s0), (7, (b0 + 8), f1, s1), (0, b2, f2, s2), (2, (b0 + 26), f3, s3)] h) (xok_sub ho [0] rfl (by decide)) s0 (2 : Int32) x hx) rfl (fun x2 _ => ?_)
  exact s_iret (pc := 33) dX11_findThing_33 rfl (fun _ _ q => q)
def pX11_findThing (s0 : RS) (s1 : RS) (s2 : RS) (s3 : RS) (a0 : Int32) (a1 : Int32) : Option (Int32 × RS × RS) :=
  (pX0_isSet s2 a0).bind fun x1 =>
  if x1 = true then
    (pX0_isChange s2 a1).bind fun x3 =>
    if x3 = true then
      (pX0_isClosed s2 a0).bind fun x4 =>
      if x4 = true then
        (pX2_fill s3 s2 a0).bind fun x5 =>
        (pX2_placeOf x5 a1).bind fun x6 =>
        if x6 = (-1 : Int32) then
          (pX11_refuse s0 (8 : Int32)).bind fun x8 =>
          some (x8.1, x8.2, x5)
        else
          (pX11_tell s0 x6).bind fun x7 =>
          some (x7.1, x7.2, x5)
      else
        (pX11_refuse s0 (9 : Int32)).bind fun x9 =>
        some (x9.1, x9.2, s3)
    else
      X11_findThing_j28 s0 s1 s2 s3
  else
    X11_findThing_j28 s0 s1 s2 s3
theorem pX11_findThing_w (ho : xok [(11, b0), (7, (b0 + 8)), (0, b2), (2, (b0 + 26))] h.2.1) (hq_1_0 : f1 0 = some b2) (s0 : RS) (s1 : RS) (s2 : RS) (s3 : RS) (a0 : Int32) (a1 : Int32) : aS l 4 MX11_findThing n0 S0 (oΦ (fun (x : Int32 × RS × RS) => ((some (.int x.1)), xw [(11, b0, f0, x.2.1), (7, (b0 + 8), f1, s1), (0, b2, f2, s2), (2, (b0 + 26), f3, x.2.2)] h))) 0 [(0, .ref b0), (1, .int a0), (2, .int a1)] [] (xw [(11, b0, f0, s0), (7, (b0 + 8), f1, s1), (0, b2, f2, s2), (2, (b0 + 26), f3, s3)] h) (pX11_findThing s0 s1 s2 s3 a0 a1) := by
  unfold pX11_findThing
  refine s_aload_n (pc := 0) 0 dX11_findThing_0 rfl ?_
  refine xg_X11_25 0 ho rfl (pc := 1) dX11_findThing_1 rfl ?_
  refine xg_X11_174 1 ho rfl (pc := 4) dX11_findThing_4 rfl hq_1_0 ?_
  refine s_iload_n (pc := 7) 1 dX11_findThing_7 rfl ?_
  refine x_callV (M := MX11_findThing) (L := [(11, b0, f0, s0), (7, (b0 + 8), f1, s1), (0, b2, f2, s2), (2, (b0 + 26), f3, s3)]) (h := h) (j := 2) (As := [.int a0]) (st := []) (A := fun (x : Bool) => some (.int (b2i x))) (Lc := [(0, b2, f2, s2)]) (Lr := fun (x : Bool) => [(0, b2, f2, s2)]) (L2 := fun (x : Bool) => [(11, b0, f0, s0), (7, (b0 + 8), f1, s1), (0, b2, f2, s2), (2, (b0 + 26), f3, s3)]) cv_X11_241 (by decide) (pc := 8) dX11_findThing_8 ho rfl xc0_0 rfl rfl (Nat.le_of_ble_eq_true rfl) (xovs (L := [(11, b0, f0, s0), (7, (b0 + 8), f1, s1), (0, b2, f2, s2), (2, (b0 + 26), f3, s3)]) (h := h) [(2, (0, b2, f2, s2))] ho ⟨rfl, trivial⟩).1 (fun x => (xovs (L := [(11, b0, f0, s0), (7, (b0 + 8), f1, s1), (0, b2, f2, s2), (2, (b0 + 26), f3, s3)]) (h := h) [(2, (0, b2, f2, s2))] ho ⟨rfl, trivial⟩).1) (fun x hx => pX0_isSet_ok (h := xw [(11, b0, f0, s0), (7, (b0 + 8), f1, s1), (0, b2, f2, s2), (2, (b0 + 26), f3, s3)] h) (xok_sub ho [2] rfl (by decide)) s2 a0 x hx) rfl (fun x1 _ => ?_)
  refine s_if_eqB (tgt := 28) (pc := 11) dX11_findThing_11 (by decide) (fun _ => ?_) (fun _ => ?_)
  · refine s_aload_n (pc := 14) 0 dX11_findThing_14 rfl ?_
    refine xg_X11_25 0 ho rfl (pc := 15) dX11_findThing_15 rfl ?_
    refine xg_X11_174 1 ho rfl (pc := 18) dX11_findThing_18 rfl hq_1_0 ?_
    refine s_iload_n (pc := 21) 2 dX11_findThing_21 rfl ?_
    refine x_callV (M := MX11_findThing) (L := [(11, b0, f0, s0), (7, (b0 + 8), f1, s1), (0, b2, f2, s2), (2, (b0 + 26), f3, s3)]) (h := h) (j := 2) (As := [.int a1]) (st := []) (A := fun (x : Bool) => some (.int (b2i x))) (Lc := [(0, b2, f2, s2)]) (Lr := fun (x : Bool) => [(0, b2, f2, s2)]) (L2 := fun (x : Bool) => [(11, b0, f0, s0), (7, (b0 + 8), f1, s1), (0, b2, f2, s2), (2, (b0 + 26), f3, s3)]) cv_X11_212 (by decide) (pc := 22) dX11_findThing_22 ho rfl xc0_0 rfl rfl (Nat.le_of_ble_eq_true rfl) (xovs (L := [(11, b0, f0, s0), (7, (b0 + 8), f1, s1), (0, b2, f2, s2), (2, (b0 + 26), f3, s3)]) (h := h) [(2, (0, b2, f2, s2))] ho ⟨rfl, trivial⟩).1 (fun x => (xovs (L := [(11, b0, f0, s0), (7, (b0 + 8), f1, s1), (0, b2, f2, s2), (2, (b0 + 26), f3, s3)]) (h := h) [(2, (0, b2, f2, s2))] ho ⟨rfl, trivial⟩).1) (fun x hx => pX0_isChange_ok (h := xw [(11, b0, f0, s0), (7, (b0 + 8), f1, s1), (0, b2, f2, s2), (2, (b0 + 26), f3, s3)] h) (xok_sub ho [2] rfl (by decide)) s2 a1 x hx) rfl (fun x3 _ => ?_)
    refine s_if_neB (tgt := 34) (pc := 25) dX11_findThing_25 (by decide) (fun _ => ?_) (fun _ => ?_)
    · refine s_aload_n (pc := 34) 0 dX11_findThing_34 rfl ?_
      refine xg_X11_25 0 ho rfl (pc := 35) dX11_findThing_35 rfl ?_
      refine xg_X11_174 1 ho rfl (pc := 38) dX11_findThing_38 rfl hq_1_0 ?_
      refine s_iload_n (pc := 41) 1 dX11_findThing_41 rfl ?_
      refine x_callV (M := MX11_findThing) (L := [(11, b0, f0, s0), (7, (b0 + 8), f1, s1), (0, b2, f2, s2), (2, (b0 + 26), f3, s3)]) (h := h) (j := 2) (As := [.int a0]) (st := []) (A := fun (x : Bool) => some (.int (b2i x))) (Lc := [(0, b2, f2, s2)]) (Lr := fun (x : Bool) => [(0, b2, f2, s2)]) (L2 := fun (x : Bool) => [(11, b0, f0, s0), (7, (b0 + 8), f1, s1), (0, b2, f2, s2), (2, (b0 + 26), f3, s3)]) cv_X11_244 (by decide) (pc := 42) dX11_findThing_42 ho rfl xc0_0 rfl rfl (Nat.le_of_ble_eq_true rfl) (xovs (L := [(11, b0, f0, s0), (7, (b0 + 8), f1, s1), (0, b2, f2, s2), (2, (b0 + 26), f3, s3)]) (h := h) [(2, (0, b2, f2, s2))] ho ⟨rfl, trivial⟩).1 (fun x => (xovs (L := [(11, b0, f0, s0), (7, (b0 + 8), f1, s1), (0, b2, f2, s2), (2, (b0 + 26), f3, s3)]) (h := h) [(2, (0, b2, f2, s2))] ho ⟨rfl, trivial⟩).1) (fun x hx => pX0_isClosed_ok (h := xw [(11, b0, f0, s0), (7, (b0 + 8), f1, s1), (0, b2, f2, s2), (2, (b0 + 26), f3, s3)] h) (xok_sub ho [2] rfl (by decide)) s2 a0 x hx) rfl (fun x4 _ => ?_)
      refine s_if_neB (tgt := 55) (pc := 45) dX11_findThing_45 (by decide) (fun _ => ?_) (fun _ => ?_)
      · refine s_aload_n (pc := 55) 0 dX11_findThing_55 rfl ?_
        refine xg_X11_36 0 ho rfl (pc := 56) dX11_findThing_56 rfl ?_
        refine s_aload_n (pc := 59) 0 dX11_findThing_59 rfl ?_
        refine xg_X11_25 0 ho rfl (pc := 60) dX11_findThing_60 rfl ?_
        refine xg_X11_174 1 ho rfl (pc := 63) dX11_findThing_63 rfl hq_1_0 ?_
        refine s_iload_n (pc := 66) 1 dX11_findThing_66 rfl ?_
        refine x_callV (M := MX11_findThing) (L := [(11, b0, f0, s0), (7, (b0 + 8), f1, s1), (0, b2, f2, s2), (2, (b0 + 26), f3, s3)]) (h := h) (j := 3) (As := [.ref b2, .int a0]) (st := []) (A := fun (x : RS) => none) (Lc := [(2, (b0 + 26), f3, s3), (0, b2, f2, s2)]) (Lr := fun (x : RS) => [(2, (b0 + 26), f3, x), (0, b2, f2, s2)]) (L2 := fun (x : RS) => [(11, b0, f0, s0), (7, (b0 + 8), f1, s1), (0, b2, f2, s2), (2, (b0 + 26), f3, x)]) cv_X11_265 (by decide) (pc := 67) dX11_findThing_67 ho rfl xc0_2 rfl rfl (Nat.le_of_ble_eq_true rfl) (xovs (L := [(11, b0, f0, s0), (7, (b0 + 8), f1, s1), (0, b2, f2, s2), (2, (b0 + 26), f3, s3)]) (h := h) [(3, (2, (b0 + 26), f3, s3)), (2, (0, b2, f2, s2))] ho ⟨rfl, rfl, trivial⟩).1 (fun x => (xovs (L := [(11, b0, f0, s0), (7, (b0 + 8), f1, s1), (0, b2, f2, s2), (2, (b0 + 26), f3, s3)]) (h := h) [(3, (2, (b0 + 26), f3, x)), (2, (0, b2, f2, s2))] ho ⟨rfl, rfl, trivial⟩).1) (fun x hx => pX2_fill_ok (h := xw [(11, b0, f0, s0), (7, (b0 + 8), f1, s1), (0, b2, f2, s2), (2, (b0 + 26), f3, s3)] h) (xok_sub ho [3, 2] rfl (by decide)) s3 s2 a0 x hx) rfl (fun x5 _ => ?_)
        refine s_aload_n (pc := 70) 0 dX11_findThing_70 rfl ?_
        refine xg_X11_36 0 ho rfl (pc := 71) dX11_findThing_71 rfl ?_
        refine s_iload_n (pc := 74) 2 dX11_findThing_74 rfl ?_
        refine x_callV (M := MX11_findThing) (L := [(11, b0, f0, s0), (7, (b0 + 8), f1, s1), (0, b2, f2, s2), (2, (b0 + 26), f3, x5)]) (h := h) (j := 3) (As := [.int a1]) (st := []) (A := fun (x : Int32) => some (.int x)) (Lc := [(2, (b0 + 26), f3, x5)]) (Lr := fun (x : Int32) => [(2, (b0 + 26), f3, x5)]) (L2 := fun (x : Int32) => [(11, b0, f0, s0), (7, (b0 + 8), f1, s1), (0, b2, f2, s2), (2, (b0 + 26), f3, x5)]) cv_X11_278 (by decide) (pc := 75) dX11_findThing_75 ho rfl xc0_2 rfl rfl (Nat.le_of_ble_eq_true rfl) (xovs (L := [(11, b0, f0, s0), (7, (b0 + 8), f1, s1), (0, b2, f2, s2), (2, (b0 + 26), f3, x5)]) (h := h) [(3, (2, (b0 + 26), f3, x5))] ho ⟨rfl, trivial⟩).1 (fun x => (xovs (L := [(11, b0, f0, s0), (7, (b0 + 8), f1, s1), (0, b2, f2, s2), (2, (b0 + 26), f3, x5)]) (h := h) [(3, (2, (b0 + 26), f3, x5))] ho ⟨rfl, trivial⟩).1) (fun x hx => pX2_placeOf_ok (h := xw [(11, b0, f0, s0), (7, (b0 + 8), f1, s1), (0, b2, f2, s2), (2, (b0 + 26), f3, x5)] h) (xok_sub ho [3] rfl (by decide)) x5 a1 x hx) rfl (fun x6 _ => ?_)
        refine s_istore_n (lv' := [(3, .int x6), (0, .ref b0), (1, .int a0), (2, .int a1)]) (pc := 78) dX11_findThing_78 (by decide) rfl ?_
        refine s_iload_n (pc := 79) 0 dX11_findThing_79 rfl ?_
        refine s_iconst (v := (-1)) (pc := 80) dX11_findThing_80 (by decide) ?_
        refine s_icmp_ne (tgt := 93) (pc := 81) dX11_findThing_81 (by decide) (fun _ => ?_) (fun _ => ?_)
        · refine s_aload_n (pc := 84) 1 dX11_findThing_84 rfl ?_
          refine s_bipush (v := 8) (pc := 85) dX11_findThing_85 (by decide) ?_
          refine x_callV (M := MX11_findThing) (L := [(11, b0, f0, s0), (7, (b0 + 8), f1, s1), (0, b2, f2, s2), (2, (b0 + 26), f3, x5)]) (h := h) (j := 0) (As := [.int 8]) (st := []) (A := fun (x : Int32 × RS) => some (.int x.1)) (Lc := [(11, b0, f0, s0)]) (Lr := fun (x : Int32 × RS) => [(11, b0, f0, x.2)]) (L2 := fun (x : Int32 × RS) => [(11, b0, f0, x.2), (7, (b0 + 8), f1, s1), (0, b2, f2, s2), (2, (b0 + 26), f3, x5)]) cv_X11_113 (by decide) (pc := 87) dX11_findThing_87 ho rfl xc0_11 rfl rfl (Nat.le_of_ble_eq_true rfl) (xovs (L := [(11, b0, f0, s0), (7, (b0 + 8), f1, s1), (0, b2, f2, s2), (2, (b0 + 26), f3, x5)]) (h := h) [(0, (11, b0, f0, s0))] ho ⟨rfl, trivial⟩).1 (fun x => (xovs (L := [(11, b0, f0, s0), (7, (b0 + 8), f1, s1), (0, b2, f2, s2), (2, (b0 + 26), f3, x5)]) (h := h) [(0, (11, b0, f0, x.2))] ho ⟨rfl, trivial⟩).1) (fun x hx => pX11_refuse_ok (h := xw [(11, b0, f0, s0), (7, (b0 + 8), f1, s1), (0, b2, f2, s2), (2, (b0 + 26), f3, x5)] h) (xok_sub ho [0] rfl (by decide)) s0 (8 : Int32) x hx) rfl (fun x8 _ => ?_)
          refine s_goto (tgt := 98) (pc := 90) dX11_findThing_90 (by decide) ?_
          exact s_iret (pc := 98) dX11_findThing_98 rfl (fun _ _ q => q)
        · refine s_aload_n (pc := 93) 1 dX11_findThing_93 rfl ?_
          refine s_iload_n (pc := 94) 0 dX11_findThing_94 rfl ?_
          refine x_callV (M := MX11_findThing) (L := [(11, b0, f0, s0), (7, (b0 + 8), f1, s1), (0, b2, f2, s2), (2, (b0 + 26), f3, x5)]) (h := h) (j := 0) (As := [.int x6]) (st := []) (A := fun (x : Int32 × RS) => some (.int x.1)) (Lc := [(11, b0, f0, s0)]) (Lr := fun (x : Int32 × RS) => [(11, b0, f0, x.2)]) (L2 := fun (x : Int32 × RS) => [(11, b0, f0, x.2), (7, (b0 + 8), f1, s1), (0, b2, f2, s2), (2, (b0 + 26), f3, x5)]) cv_X11_169 (by decide) (pc := 95) dX11_findThing_95 ho rfl xc0_11 rfl rfl (Nat.le_of_ble_eq_true rfl) (xovs (L := [(11, b0, f0, s0), (7, (b0 + 8), f1, s1), (0, b2, f2, s2), (2, (b0 + 26), f3, x5)]) (h := h) [(0, (11, b0, f0, s0))] ho ⟨rfl, trivial⟩).1 (fun x => (xovs (L := [(11, b0, f0, s0), (7, (b0 + 8), f1, s1), (0, b2, f2, s2), (2, (b0 + 26), f3, x5)]) (h := h) [(0, (11, b0, f0, x.2))] ho ⟨rfl, trivial⟩).1) (fun x hx => pX11_tell_ok (h := xw [(11, b0, f0, s0), (7, (b0 + 8), f1, s1), (0, b2, f2, s2), (2, (b0 + 26), f3, x5)] h) (xok_sub ho [0] rfl (by decide)) s0 x6 x hx) rfl (fun x7 _ => ?_)
          exact s_iret (pc := 98) dX11_findThing_98 rfl (fun _ _ q => q)
      · refine s_aload_n (pc := 48) 0 dX11_findThing_48 rfl ?_
        refine s_bipush (v := 9) (pc := 49) dX11_findThing_49 (by decide) ?_
        refine x_callV (M := MX11_findThing) (L := [(11, b0, f0, s0), (7, (b0 + 8), f1, s1), (0, b2, f2, s2), (2, (b0 + 26), f3, s3)]) (h := h) (j := 0) (As := [.int 9]) (st := []) (A := fun (x : Int32 × RS) => some (.int x.1)) (Lc := [(11, b0, f0, s0)]) (Lr := fun (x : Int32 × RS) => [(11, b0, f0, x.2)]) (L2 := fun (x : Int32 × RS) => [(11, b0, f0, x.2), (7, (b0 + 8), f1, s1), (0, b2, f2, s2), (2, (b0 + 26), f3, s3)]) cv_X11_113 (by decide) (pc := 51) dX11_findThing_51 ho rfl xc0_11 rfl rfl (Nat.le_of_ble_eq_true rfl) (xovs (L := [(11, b0, f0, s0), (7, (b0 + 8), f1, s1), (0, b2, f2, s2), (2, (b0 + 26), f3, s3)]) (h := h) [(0, (11, b0, f0, s0))] ho ⟨rfl, trivial⟩).1 (fun x => (xovs (L := [(11, b0, f0, s0), (7, (b0 + 8), f1, s1), (0, b2, f2, s2), (2, (b0 + 26), f3, s3)]) (h := h) [(0, (11, b0, f0, x.2))] ho ⟨rfl, trivial⟩).1) (fun x hx => pX11_refuse_ok (h := xw [(11, b0, f0, s0), (7, (b0 + 8), f1, s1), (0, b2, f2, s2), (2, (b0 + 26), f3, s3)] h) (xok_sub ho [0] rfl (by decide)) s0 (9 : Int32) x hx) rfl (fun x9 _ => ?_)
        exact s_iret (pc := 54) dX11_findThing_54 rfl (fun _ _ q => q)
    · refine s_sub [0] rfl ?_
      exact X11_findThing_j28_ok ho hq_1_0 s0 s1 s2 s3
  · refine s_sub [0] rfl ?_
    exact X11_findThing_j28_ok ho hq_1_0 s0 s1 s2 s3
theorem pX11_findThing_ok (ho : xok [(11, b0), (7, (b0 + 8)), (0, b2), (2, (b0 + 26))] h.2.1) (hq_1_0 : f1 0 = some b2) (s0 : RS) (s1 : RS) (s2 : RS) (s3 : RS) (a0 : Int32) (a1 : Int32) : ∀ x, pX11_findThing s0 s1 s2 s3 a0 a1 = some x → aMet l 4 yX11_findThing cX11_findThing 4 (some .int) [.ref b0, .int a0, .int a1] (xw [(11, b0, f0, s0), (7, (b0 + 8), f1, s1), (0, b2, f2, s2), (2, (b0 + 26), f3, s3)] h) (some (.int x.1)) (xw [(11, b0, f0, x.2.1), (7, (b0 + 8), f1, s1), (0, b2, f2, s2), (2, (b0 + 26), f3, x.2.2)] h) := fun x hx => a_meth (ini := false) (y := yX11_findThing) (by decide +kernel) (fun q => by cases q) (fun _ => Nat.le_of_ble_eq_true rfl) (pX11_findThing_w ho hq_1_0 s0 s1 s2 s3 a0 a1) x hx _ _ ⟨rfl, rfl⟩
end
section
variable {l : Launch} {n0 S0 : Nat} {h : aH} {b0 b2 : Nat} {f0 f1 f2 f3 : Nat → Option Nat}
abbrev MX11_says : aM := (cX11_says, RX11, 4, (some .int), false)
def pX11_says (s0 : RS) (s1 : RS) (s2 : RS) (s3 : RS) (a0 : Int32) (a1 : Int32) : Option (Int32 × RS × RS) :=
  (pX11_findThing s0 s1 s2 s3 a0 a1).bind fun x1 =>
  (pX2_isPlace x1.2.2 x1.1).bind fun x2 =>
  if x2 = true then
    g_in x1.1 16 (
    some ((x1.2.2.2.2.1 2 x1.1.toNatClampNeg), x1.2.1, x1.2.2))
  else
    some ((-1 : Int32), x1.2.1, x1.2.2)
theorem pX11_says_w (ho : xok [(11, b0), (7, (b0 + 8)), (0, b2), (2, (b0 + 26))] h.2.1) (hq_1_0 : f1 0 = some b2) (s0 : RS) (s1 : RS) (s2 : RS) (s3 : RS) (a0 : Int32) (a1 : Int32) : aS l 5 MX11_says n0 S0 (oΦ (fun (x : Int32 × RS × RS) => ((some (.int x.1)), xw [(11, b0, f0, x.2.1), (7, (b0 + 8), f1, s1), (0, b2, f2, s2), (2, (b0 + 26), f3, x.2.2)] h))) 0 [(0, .ref b0), (1, .int a0), (2, .int a1)] [] (xw [(11, b0, f0, s0), (7, (b0 + 8), f1, s1), (0, b2, f2, s2), (2, (b0 + 26), f3, s3)] h) (pX11_says s0 s1 s2 s3 a0 a1) := by
  unfold pX11_says
  refine s_aload_n (pc := 0) 0 dX11_says_0 rfl ?_
  refine s_iload_n (pc := 1) 1 dX11_says_1 rfl ?_
  refine s_iload_n (pc := 2) 2 dX11_says_2 rfl ?_
  refine x_callV (M := MX11_says) (L := [(11, b0, f0, s0), (7, (b0 + 8), f1, s1), (0, b2, f2, s2), (2, (b0 + 26), f3, s3)]) (h := h) (j := 0) (As := [.int a0, .int a1]) (st := []) (A := fun (x : Int32 × RS × RS) => some (.int x.1)) (Lc := [(11, b0, f0, s0), (7, (b0 + 8), f1, s1), (0, b2, f2, s2), (2, (b0 + 26), f3, s3)]) (Lr := fun (x : Int32 × RS × RS) => [(11, b0, f0, x.2.1), (7, (b0 + 8), f1, s1), (0, b2, f2, s2), (2, (b0 + 26), f3, x.2.2)]) (L2 := fun (x : Int32 × RS × RS) => [(11, b0, f0, x.2.1), (7, (b0 + 8), f1, s1), (0, b2, f2, s2), (2, (b0 + 26), f3, x.2.2)]) cv_X11_281 (by decide) (pc := 3) dX11_says_3 ho rfl xc0_11 rfl rfl (Nat.le_of_ble_eq_true rfl) (xovs (L := [(11, b0, f0, s0), (7, (b0 + 8), f1, s1), (0, b2, f2, s2), (2, (b0 + 26), f3, s3)]) (h := h) [(0, (11, b0, f0, s0)), (1, (7, (b0 + 8), f1, s1)), (2, (0, b2, f2, s2)), (3, (2, (b0 + 26), f3, s3))] ho ⟨rfl, rfl, rfl, rfl, trivial⟩).1 (fun x => (xovs (L := [(11, b0, f0, s0), (7, (b0 + 8), f1, s1), (0, b2, f2, s2), (2, (b0 + 26), f3, s3)]) (h := h) [(0, (11, b0, f0, x.2.1)), (1, (7, (b0 + 8), f1, s1)), (2, (0, b2, f2, s2)), (3, (2, (b0 + 26), f3, x.2.2))] ho ⟨rfl, rfl, rfl, rfl, trivial⟩).1) (fun x hx => pX11_findThing_ok (h := xw [(11, b0, f0, s0), (7, (b0 + 8), f1, s1), (0, b2, f2, s2), (2, (b0 + 26), f3, s3)] h) (xok_sub ho [0, 1, 2, 3] rfl (by decide)) hq_1_0 s0 s1 s2 s3 a0 a1 x hx) rfl (fun x1 _ => ?_)
  refine s_istore_n (lv' := [(3, .int x1.1), (0, .ref b0), (1, .int a0), (2, .int a1)]) (pc := 6) dX11_says_6 (by decide) rfl ?_
  refine s_aload_n (pc := 7) 1 dX11_says_7 rfl ?_
  refine xg_X11_36 0 ho rfl (pc := 8) dX11_says_8 rfl ?_
  refine s_iload_n (pc := 11) 0 dX11_says_11 rfl ?_
  refine x_callV (M := MX11_says) (L := [(11, b0, f0, x1.2.1), (7, (b0 + 8), f1, s1), (0, b2, f2, s2), (2, (b0 + 26), f3, x1.2.2)]) (h := h) (j := 3) (As := [.int x1.1]) (st := []) (A := fun (x : Bool) => some (.int (b2i x))) (Lc := [(2, (b0 + 26), f3, x1.2.2)]) (Lr := fun (x : Bool) => [(2, (b0 + 26), f3, x1.2.2)]) (L2 := fun (x : Bool) => [(11, b0, f0, x1.2.1), (7, (b0 + 8), f1, s1), (0, b2, f2, s2), (2, (b0 + 26), f3, x1.2.2)]) cv_X11_272 (by decide) (pc := 12) dX11_says_12 ho rfl xc0_2 rfl rfl (Nat.le_of_ble_eq_true rfl) (xovs (L := [(11, b0, f0, x1.2.1), (7, (b0 + 8), f1, s1), (0, b2, f2, s2), (2, (b0 + 26), f3, x1.2.2)]) (h := h) [(3, (2, (b0 + 26), f3, x1.2.2))] ho ⟨rfl, trivial⟩).1 (fun x => (xovs (L := [(11, b0, f0, x1.2.1), (7, (b0 + 8), f1, s1), (0, b2, f2, s2), (2, (b0 + 26), f3, x1.2.2)]) (h := h) [(3, (2, (b0 + 26), f3, x1.2.2))] ho ⟨rfl, trivial⟩).1) (fun x hx => pX2_isPlace_ok (h := xw [(11, b0, f0, x1.2.1), (7, (b0 + 8), f1, s1), (0, b2, f2, s2), (2, (b0 + 26), f3, x1.2.2)] h) (xok_sub ho [3] rfl (by decide)) x1.2.2 x1.1 x hx) rfl (fun x2 _ => ?_)
  refine s_if_eqB (tgt := 30) (pc := 15) dX11_says_15 (by decide) (fun _ => ?_) (fun _ => ?_)
  · refine s_aload_n (pc := 18) 1 dX11_says_18 rfl ?_
    refine xg_X11_36 0 ho rfl (pc := 19) dX11_says_19 rfl ?_
    refine xg_X11_284 3 ho rfl (pc := 22) dX11_says_22 rfl ?_
    refine s_iload_n (pc := 25) 0 dX11_says_25 rfl ?_
    refine xl_2_2 3 ho rfl (pc := 26) dX11_says_26 ?_
    refine s_goto (tgt := 31) (pc := 27) dX11_says_27 (by decide) ?_
    exact s_iret (pc := 31) dX11_says_31 rfl (fun _ _ q => q)
  · refine s_iconst (v := (-1)) (pc := 30) dX11_says_30 (by decide) ?_
    exact s_iret (pc := 31) dX11_says_31 rfl (fun _ _ q => q)
theorem pX11_says_ok (ho : xok [(11, b0), (7, (b0 + 8)), (0, b2), (2, (b0 + 26))] h.2.1) (hq_1_0 : f1 0 = some b2) (s0 : RS) (s1 : RS) (s2 : RS) (s3 : RS) (a0 : Int32) (a1 : Int32) : ∀ x, pX11_says s0 s1 s2 s3 a0 a1 = some x → aMet l 5 yX11_says cX11_says 4 (some .int) [.ref b0, .int a0, .int a1] (xw [(11, b0, f0, s0), (7, (b0 + 8), f1, s1), (0, b2, f2, s2), (2, (b0 + 26), f3, s3)] h) (some (.int x.1)) (xw [(11, b0, f0, x.2.1), (7, (b0 + 8), f1, s1), (0, b2, f2, s2), (2, (b0 + 26), f3, x.2.2)] h) := fun x hx => a_meth (ini := false) (y := yX11_says) (by decide +kernel) (fun q => by cases q) (fun _ => Nat.le_of_ble_eq_true rfl) (pX11_says_w ho hq_1_0 s0 s1 s2 s3 a0 a1) x hx _ _ ⟨rfl, rfl⟩
end
section
variable {l : Launch} {n0 S0 : Nat} {h : aH} {b0 b2 : Nat} {f0 f1 f2 f3 : Nat → Option Nat}
abbrev MX11_key : aM := (cX11_key, RX11, 4, (some .int), false)
def pX11_key (s0 : RS) (s1 : RS) (s2 : RS) (s3 : RS) (a0 : Int32) (a1 : Int32) : Option (Int32 × RS × RS) :=
  (pX11_findThing s0 s1 s2 s3 a0 a1).bind fun x1 =>
  (pX2_isPlace x1.2.2 x1.1).bind fun x2 =>
  if x2 = true then
    g_in x1.1 16 (
    some ((x1.2.2.2.2.1 3 x1.1.toNatClampNeg), x1.2.1, x1.2.2))
  else
    some ((-1 : Int32), x1.2.1, x1.2.2)
theorem pX11_key_w (ho : xok [(11, b0), (7, (b0 + 8)), (0, b2), (2, (b0 + 26))] h.2.1) (hq_1_0 : f1 0 = some b2) (s0 : RS) (s1 : RS) (s2 : RS) (s3 : RS) (a0 : Int32) (a1 : Int32) : aS l 5 MX11_key n0 S0 (oΦ (fun (x : Int32 × RS × RS) => ((some (.int x.1)), xw [(11, b0, f0, x.2.1), (7, (b0 + 8), f1, s1), (0, b2, f2, s2), (2, (b0 + 26), f3, x.2.2)] h))) 0 [(0, .ref b0), (1, .int a0), (2, .int a1)] [] (xw [(11, b0, f0, s0), (7, (b0 + 8), f1, s1), (0, b2, f2, s2), (2, (b0 + 26), f3, s3)] h) (pX11_key s0 s1 s2 s3 a0 a1) := by
  unfold pX11_key
  refine s_aload_n (pc := 0) 0 dX11_key_0 rfl ?_
  refine s_iload_n (pc := 1) 1 dX11_key_1 rfl ?_
  refine s_iload_n (pc := 2) 2 dX11_key_2 rfl ?_
  refine x_callV (M := MX11_key) (L := [(11, b0, f0, s0), (7, (b0 + 8), f1, s1), (0, b2, f2, s2), (2, (b0 + 26), f3, s3)]) (h := h) (j := 0) (As := [.int a0, .int a1]) (st := []) (A := fun (x : Int32 × RS × RS) => some (.int x.1)) (Lc := [(11, b0, f0, s0), (7, (b0 + 8), f1, s1), (0, b2, f2, s2), (2, (b0 + 26), f3, s3)]) (Lr := fun (x : Int32 × RS × RS) => [(11, b0, f0, x.2.1), (7, (b0 + 8), f1, s1), (0, b2, f2, s2), (2, (b0 + 26), f3, x.2.2)]) (L2 := fun (x : Int32 × RS × RS) => [(11, b0, f0, x.2.1), (7, (b0 + 8), f1, s1), (0, b2, f2, s2), (2, (b0 + 26), f3, x.2.2)]) cv_X11_281 (by decide) (pc := 3) dX11_key_3 ho rfl xc0_11 rfl rfl (Nat.le_of_ble_eq_true rfl) (xovs (L := [(11, b0, f0, s0), (7, (b0 + 8), f1, s1), (0, b2, f2, s2), (2, (b0 + 26), f3, s3)]) (h := h) [(0, (11, b0, f0, s0)), (1, (7, (b0 + 8), f1, s1)), (2, (0, b2, f2, s2)), (3, (2, (b0 + 26), f3, s3))] ho ⟨rfl, rfl, rfl, rfl, trivial⟩).1 (fun x => (xovs (L := [(11, b0, f0, s0), (7, (b0 + 8), f1, s1), (0, b2, f2, s2), (2, (b0 + 26), f3, s3)]) (h := h) [(0, (11, b0, f0, x.2.1)), (1, (7, (b0 + 8), f1, s1)), (2, (0, b2, f2, s2)), (3, (2, (b0 + 26), f3, x.2.2))] ho ⟨rfl, rfl, rfl, rfl, trivial⟩).1) (fun x hx => pX11_findThing_ok (h := xw [(11, b0, f0, s0), (7, (b0 + 8), f1, s1), (0, b2, f2, s2), (2, (b0 + 26), f3, s3)] h) (xok_sub ho [0, 1, 2, 3] rfl (by decide)) hq_1_0 s0 s1 s2 s3 a0 a1 x hx) rfl (fun x1 _ => ?_)
  refine s_istore_n (lv' := [(3, .int x1.1), (0, .ref b0), (1, .int a0), (2, .int a1)]) (pc := 6) dX11_key_6 (by decide) rfl ?_
  refine s_aload_n (pc := 7) 1 dX11_key_7 rfl ?_
  refine xg_X11_36 0 ho rfl (pc := 8) dX11_key_8 rfl ?_
  refine s_iload_n (pc := 11) 0 dX11_key_11 rfl ?_
  refine x_callV (M := MX11_key) (L := [(11, b0, f0, x1.2.1), (7, (b0 + 8), f1, s1), (0, b2, f2, s2), (2, (b0 + 26), f3, x1.2.2)]) (h := h) (j := 3) (As := [.int x1.1]) (st := []) (A := fun (x : Bool) => some (.int (b2i x))) (Lc := [(2, (b0 + 26), f3, x1.2.2)]) (Lr := fun (x : Bool) => [(2, (b0 + 26), f3, x1.2.2)]) (L2 := fun (x : Bool) => [(11, b0, f0, x1.2.1), (7, (b0 + 8), f1, s1), (0, b2, f2, s2), (2, (b0 + 26), f3, x1.2.2)]) cv_X11_272 (by decide) (pc := 12) dX11_key_12 ho rfl xc0_2 rfl rfl (Nat.le_of_ble_eq_true rfl) (xovs (L := [(11, b0, f0, x1.2.1), (7, (b0 + 8), f1, s1), (0, b2, f2, s2), (2, (b0 + 26), f3, x1.2.2)]) (h := h) [(3, (2, (b0 + 26), f3, x1.2.2))] ho ⟨rfl, trivial⟩).1 (fun x => (xovs (L := [(11, b0, f0, x1.2.1), (7, (b0 + 8), f1, s1), (0, b2, f2, s2), (2, (b0 + 26), f3, x1.2.2)]) (h := h) [(3, (2, (b0 + 26), f3, x1.2.2))] ho ⟨rfl, trivial⟩).1) (fun x hx => pX2_isPlace_ok (h := xw [(11, b0, f0, x1.2.1), (7, (b0 + 8), f1, s1), (0, b2, f2, s2), (2, (b0 + 26), f3, x1.2.2)] h) (xok_sub ho [3] rfl (by decide)) x1.2.2 x1.1 x hx) rfl (fun x2 _ => ?_)
  refine s_if_eqB (tgt := 30) (pc := 15) dX11_key_15 (by decide) (fun _ => ?_) (fun _ => ?_)
  · refine s_aload_n (pc := 18) 1 dX11_key_18 rfl ?_
    refine xg_X11_36 0 ho rfl (pc := 19) dX11_key_19 rfl ?_
    refine xg_X11_285 3 ho rfl (pc := 22) dX11_key_22 rfl ?_
    refine s_iload_n (pc := 25) 0 dX11_key_25 rfl ?_
    refine xl_2_3 3 ho rfl (pc := 26) dX11_key_26 ?_
    refine s_goto (tgt := 31) (pc := 27) dX11_key_27 (by decide) ?_
    exact s_iret (pc := 31) dX11_key_31 rfl (fun _ _ q => q)
  · refine s_iconst (v := (-1)) (pc := 30) dX11_key_30 (by decide) ?_
    exact s_iret (pc := 31) dX11_key_31 rfl (fun _ _ q => q)
theorem pX11_key_ok (ho : xok [(11, b0), (7, (b0 + 8)), (0, b2), (2, (b0 + 26))] h.2.1) (hq_1_0 : f1 0 = some b2) (s0 : RS) (s1 : RS) (s2 : RS) (s3 : RS) (a0 : Int32) (a1 : Int32) : ∀ x, pX11_key s0 s1 s2 s3 a0 a1 = some x → aMet l 5 yX11_key cX11_key 4 (some .int) [.ref b0, .int a0, .int a1] (xw [(11, b0, f0, s0), (7, (b0 + 8), f1, s1), (0, b2, f2, s2), (2, (b0 + 26), f3, s3)] h) (some (.int x.1)) (xw [(11, b0, f0, x.2.1), (7, (b0 + 8), f1, s1), (0, b2, f2, s2), (2, (b0 + 26), f3, x.2.2)] h) := fun x hx => a_meth (ini := false) (y := yX11_key) (by decide +kernel) (fun q => by cases q) (fun _ => Nat.le_of_ble_eq_true rfl) (pX11_key_w ho hq_1_0 s0 s1 s2 s3 a0 a1) x hx _ _ ⟨rfl, rfl⟩
end
section
variable {l : Launch} {n0 S0 : Nat} {h : aH} {b0 b2 : Nat} {f0 f1 f2 f3 : Nat → Option Nat}
abbrev MX11_place : aM := (cX11_place, RX11, 3, (some .int), false)
def pX11_place (s0 : RS) (s1 : RS) (s2 : RS) (s3 : RS) (a0 : Int32) (a1 : Int32) : Option (Int32 × RS × RS) :=
  (pX11_findThing s0 s1 s2 s3 a0 a1).bind fun x1 =>
  some (x1.1, x1.2.1, x1.2.2)
theorem pX11_place_w (ho : xok [(11, b0), (7, (b0 + 8)), (0, b2), (2, (b0 + 26))] h.2.1) (hq_1_0 : f1 0 = some b2) (s0 : RS) (s1 : RS) (s2 : RS) (s3 : RS) (a0 : Int32) (a1 : Int32) : aS l 5 MX11_place n0 S0 (oΦ (fun (x : Int32 × RS × RS) => ((some (.int x.1)), xw [(11, b0, f0, x.2.1), (7, (b0 + 8), f1, s1), (0, b2, f2, s2), (2, (b0 + 26), f3, x.2.2)] h))) 0 [(0, .ref b0), (1, .int a0), (2, .int a1)] [] (xw [(11, b0, f0, s0), (7, (b0 + 8), f1, s1), (0, b2, f2, s2), (2, (b0 + 26), f3, s3)] h) (pX11_place s0 s1 s2 s3 a0 a1) := by
  unfold pX11_place
  refine s_aload_n (pc := 0) 0 dX11_place_0 rfl ?_
  refine s_iload_n (pc := 1) 1 dX11_place_1 rfl ?_
  refine s_iload_n (pc := 2) 2 dX11_place_2 rfl ?_
  refine x_callV (M := MX11_place) (L := [(11, b0, f0, s0), (7, (b0 + 8), f1, s1), (0, b2, f2, s2), (2, (b0 + 26), f3, s3)]) (h := h) (j := 0) (As := [.int a0, .int a1]) (st := []) (A := fun (x : Int32 × RS × RS) => some (.int x.1)) (Lc := [(11, b0, f0, s0), (7, (b0 + 8), f1, s1), (0, b2, f2, s2), (2, (b0 + 26), f3, s3)]) (Lr := fun (x : Int32 × RS × RS) => [(11, b0, f0, x.2.1), (7, (b0 + 8), f1, s1), (0, b2, f2, s2), (2, (b0 + 26), f3, x.2.2)]) (L2 := fun (x : Int32 × RS × RS) => [(11, b0, f0, x.2.1), (7, (b0 + 8), f1, s1), (0, b2, f2, s2), (2, (b0 + 26), f3, x.2.2)]) cv_X11_281 (by decide) (pc := 3) dX11_place_3 ho rfl xc0_11 rfl rfl (Nat.le_of_ble_eq_true rfl) (xovs (L := [(11, b0, f0, s0), (7, (b0 + 8), f1, s1), (0, b2, f2, s2), (2, (b0 + 26), f3, s3)]) (h := h) [(0, (11, b0, f0, s0)), (1, (7, (b0 + 8), f1, s1)), (2, (0, b2, f2, s2)), (3, (2, (b0 + 26), f3, s3))] ho ⟨rfl, rfl, rfl, rfl, trivial⟩).1 (fun x => (xovs (L := [(11, b0, f0, s0), (7, (b0 + 8), f1, s1), (0, b2, f2, s2), (2, (b0 + 26), f3, s3)]) (h := h) [(0, (11, b0, f0, x.2.1)), (1, (7, (b0 + 8), f1, s1)), (2, (0, b2, f2, s2)), (3, (2, (b0 + 26), f3, x.2.2))] ho ⟨rfl, rfl, rfl, rfl, trivial⟩).1) (fun x hx => pX11_findThing_ok (h := xw [(11, b0, f0, s0), (7, (b0 + 8), f1, s1), (0, b2, f2, s2), (2, (b0 + 26), f3, s3)] h) (xok_sub ho [0, 1, 2, 3] rfl (by decide)) hq_1_0 s0 s1 s2 s3 a0 a1 x hx) rfl (fun x1 _ => ?_)
  exact s_iret (pc := 6) dX11_place_6 rfl (fun _ _ q => q)
theorem pX11_place_ok (ho : xok [(11, b0), (7, (b0 + 8)), (0, b2), (2, (b0 + 26))] h.2.1) (hq_1_0 : f1 0 = some b2) (s0 : RS) (s1 : RS) (s2 : RS) (s3 : RS) (a0 : Int32) (a1 : Int32) : ∀ x, pX11_place s0 s1 s2 s3 a0 a1 = some x → aMet l 5 yX11_place cX11_place 3 (some .int) [.ref b0, .int a0, .int a1] (xw [(11, b0, f0, s0), (7, (b0 + 8), f1, s1), (0, b2, f2, s2), (2, (b0 + 26), f3, s3)] h) (some (.int x.1)) (xw [(11, b0, f0, x.2.1), (7, (b0 + 8), f1, s1), (0, b2, f2, s2), (2, (b0 + 26), f3, x.2.2)] h) := fun x hx => a_meth (ini := false) (y := yX11_place) (by decide +kernel) (fun q => by cases q) (fun _ => Nat.le_of_ble_eq_true rfl) (pX11_place_w ho hq_1_0 s0 s1 s2 s3 a0 a1) x hx _ _ ⟨rfl, rfl⟩
end
section
variable {l : Launch} {n0 S0 : Nat} {h : aH} {b0 b2 : Nat} {f0 f1 f2 : Nat → Option Nat}
abbrev MX11_faultOfSets : aM := (cX11_faultOfSets, RX11, 3, (some .int), false)
def pX11_faultOfSets (s0 : RS) (s1 : RS) (s2 : RS) (a0 : Int32) (a1 : Int32) : Option Int32 :=
  (pX0_isSet s2 a0).bind fun x1 =>
  if x1 = true then
    (pX0_isSet s2 a1).bind fun x2 =>
    if x2 = true then
      (pX0_isClosed s2 a0).bind fun x3 =>
      if x3 = true then
        (pX0_isClosed s2 a1).bind fun x4 =>
        if x4 = true then
          some (0 : Int32)
        else
          some (9 : Int32)
      else
        some (9 : Int32)
    else
      some (2 : Int32)
  else
    some (2 : Int32)
theorem pX11_faultOfSets_w (ho : xok [(11, b0), (7, (b0 + 8)), (0, b2)] h.2.1) (hq_1_0 : f1 0 = some b2) (s0 : RS) (s1 : RS) (s2 : RS) (a0 : Int32) (a1 : Int32) : aS l 3 MX11_faultOfSets n0 S0 (oΦ (fun (x : Int32) => ((some (.int x)), xw [(11, b0, f0, s0), (7, (b0 + 8), f1, s1), (0, b2, f2, s2)] h))) 0 [(0, .ref b0), (1, .int a0), (2, .int a1)] [] (xw [(11, b0, f0, s0), (7, (b0 + 8), f1, s1), (0, b2, f2, s2)] h) (pX11_faultOfSets s0 s1 s2 a0 a1) := by
  unfold pX11_faultOfSets
  refine s_aload_n (pc := 0) 0 dX11_faultOfSets_0 rfl ?_
  refine xg_X11_25 0 ho rfl (pc := 1) dX11_faultOfSets_1 rfl ?_
  refine xg_X11_174 1 ho rfl (pc := 4) dX11_faultOfSets_4 rfl hq_1_0 ?_
  refine s_iload_n (pc := 7) 1 dX11_faultOfSets_7 rfl ?_
  refine x_callV (M := MX11_faultOfSets) (L := [(11, b0, f0, s0), (7, (b0 + 8), f1, s1), (0, b2, f2, s2)]) (h := h) (j := 2) (As := [.int a0]) (st := []) (A := fun (x : Bool) => some (.int (b2i x))) (Lc := [(0, b2, f2, s2)]) (Lr := fun (x : Bool) => [(0, b2, f2, s2)]) (L2 := fun (x : Bool) => [(11, b0, f0, s0), (7, (b0 + 8), f1, s1), (0, b2, f2, s2)]) cv_X11_241 (by decide) (pc := 8) dX11_faultOfSets_8 ho rfl xc0_0 rfl rfl (Nat.le_of_ble_eq_true rfl) (xovs (L := [(11, b0, f0, s0), (7, (b0 + 8), f1, s1), (0, b2, f2, s2)]) (h := h) [(2, (0, b2, f2, s2))] ho ⟨rfl, trivial⟩).1 (fun x => (xovs (L := [(11, b0, f0, s0), (7, (b0 + 8), f1, s1), (0, b2, f2, s2)]) (h := h) [(2, (0, b2, f2, s2))] ho ⟨rfl, trivial⟩).1) (fun x hx => pX0_isSet_ok (h := xw [(11, b0, f0, s0), (7, (b0 + 8), f1, s1), (0, b2, f2, s2)] h) (xok_sub ho [2] rfl (by decide)) s2 a0 x hx) rfl (fun x1 _ => ?_)
  refine s_if_eqB (tgt := 28) (pc := 11) dX11_faultOfSets_11 (by decide) (fun _ => ?_) (fun _ => ?_)
  · refine s_aload_n (pc := 14) 0 dX11_faultOfSets_14 rfl ?_
    refine xg_X11_25 0 ho rfl (pc := 15) dX11_faultOfSets_15 rfl ?_
    refine xg_X11_174 1 ho rfl (pc := 18) dX11_faultOfSets_18 rfl hq_1_0 ?_
    refine s_iload_n (pc := 21) 2 dX11_faultOfSets_21 rfl ?_
    refine x_callV (M := MX11_faultOfSets) (L := [(11, b0, f0, s0), (7, (b0 + 8), f1, s1), (0, b2, f2, s2)]) (h := h) (j := 2) (As := [.int a1]) (st := []) (A := fun (x : Bool) => some (.int (b2i x))) (Lc := [(0, b2, f2, s2)]) (Lr := fun (x : Bool) => [(0, b2, f2, s2)]) (L2 := fun (x : Bool) => [(11, b0, f0, s0), (7, (b0 + 8), f1, s1), (0, b2, f2, s2)]) cv_X11_241 (by decide) (pc := 22) dX11_faultOfSets_22 ho rfl xc0_0 rfl rfl (Nat.le_of_ble_eq_true rfl) (xovs (L := [(11, b0, f0, s0), (7, (b0 + 8), f1, s1), (0, b2, f2, s2)]) (h := h) [(2, (0, b2, f2, s2))] ho ⟨rfl, trivial⟩).1 (fun x => (xovs (L := [(11, b0, f0, s0), (7, (b0 + 8), f1, s1), (0, b2, f2, s2)]) (h := h) [(2, (0, b2, f2, s2))] ho ⟨rfl, trivial⟩).1) (fun x hx => pX0_isSet_ok (h := xw [(11, b0, f0, s0), (7, (b0 + 8), f1, s1), (0, b2, f2, s2)] h) (xok_sub ho [2] rfl (by decide)) s2 a1 x hx) rfl (fun x2 _ => ?_)
    refine s_if_neB (tgt := 30) (pc := 25) dX11_faultOfSets_25 (by decide) (fun _ => ?_) (fun _ => ?_)
    · refine s_aload_n (pc := 30) 0 dX11_faultOfSets_30 rfl ?_
      refine xg_X11_25 0 ho rfl (pc := 31) dX11_faultOfSets_31 rfl ?_
      refine xg_X11_174 1 ho rfl (pc := 34) dX11_faultOfSets_34 rfl hq_1_0 ?_
      refine s_iload_n (pc := 37) 1 dX11_faultOfSets_37 rfl ?_
      refine x_callV (M := MX11_faultOfSets) (L := [(11, b0, f0, s0), (7, (b0 + 8), f1, s1), (0, b2, f2, s2)]) (h := h) (j := 2) (As := [.int a0]) (st := []) (A := fun (x : Bool) => some (.int (b2i x))) (Lc := [(0, b2, f2, s2)]) (Lr := fun (x : Bool) => [(0, b2, f2, s2)]) (L2 := fun (x : Bool) => [(11, b0, f0, s0), (7, (b0 + 8), f1, s1), (0, b2, f2, s2)]) cv_X11_244 (by decide) (pc := 38) dX11_faultOfSets_38 ho rfl xc0_0 rfl rfl (Nat.le_of_ble_eq_true rfl) (xovs (L := [(11, b0, f0, s0), (7, (b0 + 8), f1, s1), (0, b2, f2, s2)]) (h := h) [(2, (0, b2, f2, s2))] ho ⟨rfl, trivial⟩).1 (fun x => (xovs (L := [(11, b0, f0, s0), (7, (b0 + 8), f1, s1), (0, b2, f2, s2)]) (h := h) [(2, (0, b2, f2, s2))] ho ⟨rfl, trivial⟩).1) (fun x hx => pX0_isClosed_ok (h := xw [(11, b0, f0, s0), (7, (b0 + 8), f1, s1), (0, b2, f2, s2)] h) (xok_sub ho [2] rfl (by decide)) s2 a0 x hx) rfl (fun x3 _ => ?_)
      refine s_if_eqB (tgt := 62) (pc := 41) dX11_faultOfSets_41 (by decide) (fun _ => ?_) (fun _ => ?_)
      · refine s_aload_n (pc := 44) 0 dX11_faultOfSets_44 rfl ?_
        refine xg_X11_25 0 ho rfl (pc := 45) dX11_faultOfSets_45 rfl ?_
        refine xg_X11_174 1 ho rfl (pc := 48) dX11_faultOfSets_48 rfl hq_1_0 ?_
        refine s_iload_n (pc := 51) 2 dX11_faultOfSets_51 rfl ?_
        refine x_callV (M := MX11_faultOfSets) (L := [(11, b0, f0, s0), (7, (b0 + 8), f1, s1), (0, b2, f2, s2)]) (h := h) (j := 2) (As := [.int a1]) (st := []) (A := fun (x : Bool) => some (.int (b2i x))) (Lc := [(0, b2, f2, s2)]) (Lr := fun (x : Bool) => [(0, b2, f2, s2)]) (L2 := fun (x : Bool) => [(11, b0, f0, s0), (7, (b0 + 8), f1, s1), (0, b2, f2, s2)]) cv_X11_244 (by decide) (pc := 52) dX11_faultOfSets_52 ho rfl xc0_0 rfl rfl (Nat.le_of_ble_eq_true rfl) (xovs (L := [(11, b0, f0, s0), (7, (b0 + 8), f1, s1), (0, b2, f2, s2)]) (h := h) [(2, (0, b2, f2, s2))] ho ⟨rfl, trivial⟩).1 (fun x => (xovs (L := [(11, b0, f0, s0), (7, (b0 + 8), f1, s1), (0, b2, f2, s2)]) (h := h) [(2, (0, b2, f2, s2))] ho ⟨rfl, trivial⟩).1) (fun x hx => pX0_isClosed_ok (h := xw [(11, b0, f0, s0), (7, (b0 + 8), f1, s1), (0, b2, f2, s2)] h) (xok_sub ho [2] rfl (by decide)) s2 a1 x hx) rfl (fun x4 _ => ?_)
        refine s_if_eqB (tgt := 62) (pc := 55) dX11_faultOfSets_55 (by decide) (fun _ => ?_) (fun _ => ?_)
        · refine s_iconst (v := 0) (pc := 58) dX11_faultOfSets_58 (by decide) ?_
          refine s_goto (tgt := 64) (pc := 59) dX11_faultOfSets_59 (by decide) ?_
          exact s_iret (pc := 64) dX11_faultOfSets_64 rfl (fun _ _ q => q)
        · refine s_bipush (v := 9) (pc := 62) dX11_faultOfSets_62 (by decide) ?_
          exact s_iret (pc := 64) dX11_faultOfSets_64 rfl (fun _ _ q => q)
      · refine s_bipush (v := 9) (pc := 62) dX11_faultOfSets_62 (by decide) ?_
        exact s_iret (pc := 64) dX11_faultOfSets_64 rfl (fun _ _ q => q)
    · refine s_iconst (v := 2) (pc := 28) dX11_faultOfSets_28 (by decide) ?_
      exact s_iret (pc := 29) dX11_faultOfSets_29 rfl (fun _ _ q => q)
  · refine s_iconst (v := 2) (pc := 28) dX11_faultOfSets_28 (by decide) ?_
    exact s_iret (pc := 29) dX11_faultOfSets_29 rfl (fun _ _ q => q)
theorem pX11_faultOfSets_ok (ho : xok [(11, b0), (7, (b0 + 8)), (0, b2)] h.2.1) (hq_1_0 : f1 0 = some b2) (s0 : RS) (s1 : RS) (s2 : RS) (a0 : Int32) (a1 : Int32) : ∀ x, pX11_faultOfSets s0 s1 s2 a0 a1 = some x → aMet l 3 yX11_faultOfSets cX11_faultOfSets 3 (some .int) [.ref b0, .int a0, .int a1] (xw [(11, b0, f0, s0), (7, (b0 + 8), f1, s1), (0, b2, f2, s2)] h) (some (.int x)) (xw [(11, b0, f0, s0), (7, (b0 + 8), f1, s1), (0, b2, f2, s2)] h) := fun x hx => a_meth (ini := false) (y := yX11_faultOfSets) (by decide +kernel) (fun q => by cases q) (fun _ => Nat.le_of_ble_eq_true rfl) (pX11_faultOfSets_w ho hq_1_0 s0 s1 s2 a0 a1) x hx _ _ ⟨rfl, rfl⟩
end
section
variable {l : Launch} {n0 S0 : Nat} {h : aH} {b0 b2 : Nat} {f0 f1 f2 f3 f4 : Nat → Option Nat}
abbrev MX11_like : aM := (cX11_like, RX11, 5, (some .int), false)
def X11_like_j94 (k1 : Bool) (s0 : RS) (s1 : RS) (s2 : RS) (s3 : RS) (s4 : RS) : Option (Int32 × RS × RS × RS) :=
  (pX11_tell s0 (b2i k1)).bind fun x5 =>
  some (x5.1, x5.2, s3, s4)
theorem X11_like_j94_ok (ho : xok [(11, b0), (7, (b0 + 8)), (0, b2), (2, (b0 + 26)), (2, (b0 + 30))] h.2.1) (hq_1_0 : f1 0 = some b2) (k1 : Bool) (s0 : RS) (s1 : RS) (s2 : RS) (s3 : RS) (s4 : RS) : aS l 4 MX11_like n0 S0 (oΦ (fun (x : Int32 × RS × RS × RS) => ((some (.int x.1)), xw [(11, b0, f0, x.2.1), (7, (b0 + 8), f1, s1), (0, b2, f2, s2), (2, (b0 + 26), f3, x.2.2.1), (2, (b0 + 30), f4, x.2.2.2)] h))) 94 [] [.int (b2i k1), .ref b0] (xw [(11, b0, f0, s0), (7, (b0 + 8), f1, s1), (0, b2, f2, s2), (2, (b0 + 26), f3, s3), (2, (b0 + 30), f4, s4)] h) (X11_like_j94 k1 s0 s1 s2 s3 s4) := by
  unfold X11_like_j94
  refine x_callV (M := MX11_like) (L := [(11, b0, f0, s0), (7, (b0 + 8), f1, s1), (0, b2, f2, s2), (2, (b0 + 26), f3, s3), (2, (b0 + 30), f4, s4)]) (h := h) (j := 0) (As := [.int (b2i k1)]) (st := []) (A := fun (x : Int32 × RS) => some (.int x.1)) (Lc := [(11, b0, f0, s0)]) (Lr := fun (x : Int32 × RS) => [(11, b0, f0, x.2)]) (L2 := fun (x : Int32 × RS) => [(11, b0, f0, x.2), (7, (b0 + 8), f1, s1), (0, b2, f2, s2), (2, (b0 + 26), f3, s3), (2, (b0 + 30), f4, s4)]) cv_X11_169 (by decide) (pc := 94) dX11_like_94 ho rfl xc0_11 rfl rfl (Nat.le_of_ble_eq_true rfl) (xovs (L := [(11, b0, f0, s0), (7, (b0 + 8), f1, s1), (0, b2, f2, s2), (2, (b0 + 26), f3, s3), (2, (b0 + 30), f4, s4)]) (h := h) [(0, (11, b0, f0, s0))] ho ⟨rfl, trivial⟩).1 (fun x => (xovs (L := [(11, b0, f0, s0), (7, (b0 + 8), f1, s1), (0, b2, f2, s2), (2, (b0 + 26), f3, s3), (2, (b0 + 30), f4, s4)]) (h := h) [(0, (11, b0, f0, x.2))] ho ⟨rfl, trivial⟩).1) (fun x hx => pX11_tell_ok (h := xw [(11, b0, f0, s0), (7, (b0 + 8), f1, s1), (0, b2, f2, s2), (2, (b0 + 26), f3, s3), (2, (b0 + 30), f4, s4)] h) (xok_sub ho [0] rfl (by decide)) s0 (b2i k1) x hx) rfl (fun x5 _ => ?_)
  exact s_iret (pc := 97) dX11_like_97 rfl (fun _ _ q => q)
def X11_like_j81 (k0 : Bool) (s0 : RS) (s1 : RS) (s2 : RS) (s3 : RS) (s4 : RS) : Option (Int32 × RS × RS × RS) :=
  if k0 = true then
    X11_like_j94 true s0 s1 s2 s3 s4
  else
    X11_like_j94 false s0 s1 s2 s3 s4
theorem X11_like_j81_ok (ho : xok [(11, b0), (7, (b0 + 8)), (0, b2), (2, (b0 + 26)), (2, (b0 + 30))] h.2.1) (hq_1_0 : f1 0 = some b2) (k0 : Bool) (s0 : RS) (s1 : RS) (s2 : RS) (s3 : RS) (s4 : RS) : aS l 4 MX11_like n0 S0 (oΦ (fun (x : Int32 × RS × RS × RS) => ((some (.int x.1)), xw [(11, b0, f0, x.2.1), (7, (b0 + 8), f1, s1), (0, b2, f2, s2), (2, (b0 + 26), f3, x.2.2.1), (2, (b0 + 30), f4, x.2.2.2)] h))) 81 [(0, .ref b0)] [.int (b2i k0)] (xw [(11, b0, f0, s0), (7, (b0 + 8), f1, s1), (0, b2, f2, s2), (2, (b0 + 26), f3, s3), (2, (b0 + 30), f4, s4)] h) (X11_like_j81 k0 s0 s1 s2 s3 s4) := by
  unfold X11_like_j81
  refine s_istore (lv' := [(4, .int (b2i k0)), (0, .ref b0)]) (pc := 81) dX11_like_81 (by decide) rfl ?_
  refine s_aload_n (pc := 83) 1 dX11_like_83 rfl ?_
  refine s_iload (pc := 84) 0 dX11_like_84 rfl ?_
  refine s_if_eqB (tgt := 93) (pc := 86) dX11_like_86 (by decide) (fun _ => ?_) (fun _ => ?_)
  · refine s_iconst (v := 1) (pc := 89) dX11_like_89 (by decide) ?_
    refine s_goto (tgt := 94) (pc := 90) dX11_like_90 (by decide) ?_
    refine s_sub [] rfl ?_
    exact X11_like_j94_ok ho hq_1_0 true s0 s1 s2 s3 s4
  · refine s_iconst (v := 0) (pc := 93) dX11_like_93 (by decide) ?_
    refine s_sub [] rfl ?_
    exact X11_like_j94_ok ho hq_1_0 false s0 s1 s2 s3 s4
def X11_like_j80 (s0 : RS) (s1 : RS) (s2 : RS) (s3 : RS) (s4 : RS) : Option (Int32 × RS × RS × RS) :=
  X11_like_j81 false s0 s1 s2 s3 s4
theorem X11_like_j80_ok (ho : xok [(11, b0), (7, (b0 + 8)), (0, b2), (2, (b0 + 26)), (2, (b0 + 30))] h.2.1) (hq_1_0 : f1 0 = some b2) (s0 : RS) (s1 : RS) (s2 : RS) (s3 : RS) (s4 : RS) : aS l 4 MX11_like n0 S0 (oΦ (fun (x : Int32 × RS × RS × RS) => ((some (.int x.1)), xw [(11, b0, f0, x.2.1), (7, (b0 + 8), f1, s1), (0, b2, f2, s2), (2, (b0 + 26), f3, x.2.2.1), (2, (b0 + 30), f4, x.2.2.2)] h))) 80 [(0, .ref b0)] [] (xw [(11, b0, f0, s0), (7, (b0 + 8), f1, s1), (0, b2, f2, s2), (2, (b0 + 26), f3, s3), (2, (b0 + 30), f4, s4)] h) (X11_like_j80 s0 s1 s2 s3 s4) := by
  unfold X11_like_j80
  refine s_iconst (v := 0) (pc := 80) dX11_like_80 (by decide) ?_
  exact X11_like_j81_ok ho hq_1_0 false s0 s1 s2 s3 s4
def pX11_like (s0 : RS) (s1 : RS) (s2 : RS) (s3 : RS) (s4 : RS) (a0 : Int32) (a1 : Int32) : Option (Int32 × RS × RS × RS) :=
  (pX11_faultOfSets s0 s1 s2 a0 a1).bind fun x1 =>
  if x1 = 0 then
    (pX2_fill s3 s2 a0).bind fun x2 =>
    (pX2_fill s4 s2 a1).bind fun x3 =>
    (pX2_isLike x2 x3).bind fun x4 =>
    if x4 = true then
      (pX0_quarrelAlike s2 a0 a1).bind fun x6 =>
      if x6 = true then
        X11_like_j81 true s0 s1 s2 x2 x3
      else
        X11_like_j80 s0 s1 s2 x2 x3
    else
      X11_like_j80 s0 s1 s2 x2 x3
  else
    (pX11_refuse s0 x1).bind fun x7 =>
    some (x7.1, x7.2, s3, s4)
theorem pX11_like_w (ho : xok [(11, b0), (7, (b0 + 8)), (0, b2), (2, (b0 + 26)), (2, (b0 + 30))] h.2.1) (hq_1_0 : f1 0 = some b2) (s0 : RS) (s1 : RS) (s2 : RS) (s3 : RS) (s4 : RS) (a0 : Int32) (a1 : Int32) : aS l 4 MX11_like n0 S0 (oΦ (fun (x : Int32 × RS × RS × RS) => ((some (.int x.1)), xw [(11, b0, f0, x.2.1), (7, (b0 + 8), f1, s1), (0, b2, f2, s2), (2, (b0 + 26), f3, x.2.2.1), (2, (b0 + 30), f4, x.2.2.2)] h))) 0 [(0, .ref b0), (1, .int a0), (2, .int a1)] [] (xw [(11, b0, f0, s0), (7, (b0 + 8), f1, s1), (0, b2, f2, s2), (2, (b0 + 26), f3, s3), (2, (b0 + 30), f4, s4)] h) (pX11_like s0 s1 s2 s3 s4 a0 a1) := by
  unfold pX11_like
  refine s_aload_n (pc := 0) 0 dX11_like_0 rfl ?_
  refine s_iload_n (pc := 1) 1 dX11_like_1 rfl ?_
  refine s_iload_n (pc := 2) 2 dX11_like_2 rfl ?_
  refine x_callV (M := MX11_like) (L := [(11, b0, f0, s0), (7, (b0 + 8), f1, s1), (0, b2, f2, s2), (2, (b0 + 26), f3, s3), (2, (b0 + 30), f4, s4)]) (h := h) (j := 0) (As := [.int a0, .int a1]) (st := []) (A := fun (x : Int32) => some (.int x)) (Lc := [(11, b0, f0, s0), (7, (b0 + 8), f1, s1), (0, b2, f2, s2)]) (Lr := fun (x : Int32) => [(11, b0, f0, s0), (7, (b0 + 8), f1, s1), (0, b2, f2, s2)]) (L2 := fun (x : Int32) => [(11, b0, f0, s0), (7, (b0 + 8), f1, s1), (0, b2, f2, s2), (2, (b0 + 26), f3, s3), (2, (b0 + 30), f4, s4)]) cv_X11_288 (by decide) (pc := 3) dX11_like_3 ho rfl xc0_11 rfl rfl (Nat.le_of_ble_eq_true rfl) (xovs (L := [(11, b0, f0, s0), (7, (b0 + 8), f1, s1), (0, b2, f2, s2), (2, (b0 + 26), f3, s3), (2, (b0 + 30), f4, s4)]) (h := h) [(0, (11, b0, f0, s0)), (1, (7, (b0 + 8), f1, s1)), (2, (0, b2, f2, s2))] ho ⟨rfl, rfl, rfl, trivial⟩).1 (fun x => (xovs (L := [(11, b0, f0, s0), (7, (b0 + 8), f1, s1), (0, b2, f2, s2), (2, (b0 + 26), f3, s3), (2, (b0 + 30), f4, s4)]) (h := h) [(0, (11, b0, f0, s0)), (1, (7, (b0 + 8), f1, s1)), (2, (0, b2, f2, s2))] ho ⟨rfl, rfl, rfl, trivial⟩).1) (fun x hx => pX11_faultOfSets_ok (h := xw [(11, b0, f0, s0), (7, (b0 + 8), f1, s1), (0, b2, f2, s2), (2, (b0 + 26), f3, s3), (2, (b0 + 30), f4, s4)] h) (xok_sub ho [0, 1, 2] rfl (by decide)) hq_1_0 s0 s1 s2 a0 a1 x hx) rfl (fun x1 _ => ?_)
  refine s_istore_n (lv' := [(3, .int x1), (0, .ref b0), (1, .int a0), (2, .int a1)]) (pc := 6) dX11_like_6 (by decide) rfl ?_
  refine s_iload_n (pc := 7) 0 dX11_like_7 rfl ?_
  refine s_if_eq (tgt := 17) (pc := 8) dX11_like_8 (by decide) (fun _ => ?_) (fun _ => ?_)
  · refine s_aload_n (pc := 17) 1 dX11_like_17 rfl ?_
    refine xg_X11_36 0 ho rfl (pc := 18) dX11_like_18 rfl ?_
    refine s_aload_n (pc := 21) 1 dX11_like_21 rfl ?_
    refine xg_X11_25 0 ho rfl (pc := 22) dX11_like_22 rfl ?_
    refine xg_X11_174 1 ho rfl (pc := 25) dX11_like_25 rfl hq_1_0 ?_
    refine s_iload_n (pc := 28) 2 dX11_like_28 rfl ?_
    refine x_callV (M := MX11_like) (L := [(11, b0, f0, s0), (7, (b0 + 8), f1, s1), (0, b2, f2, s2), (2, (b0 + 26), f3, s3), (2, (b0 + 30), f4, s4)]) (h := h) (j := 3) (As := [.ref b2, .int a0]) (st := []) (A := fun (x : RS) => none) (Lc := [(2, (b0 + 26), f3, s3), (0, b2, f2, s2)]) (Lr := fun (x : RS) => [(2, (b0 + 26), f3, x), (0, b2, f2, s2)]) (L2 := fun (x : RS) => [(11, b0, f0, s0), (7, (b0 + 8), f1, s1), (0, b2, f2, s2), (2, (b0 + 26), f3, x), (2, (b0 + 30), f4, s4)]) cv_X11_265 (by decide) (pc := 29) dX11_like_29 ho rfl xc0_2 rfl rfl (Nat.le_of_ble_eq_true rfl) (xovs (L := [(11, b0, f0, s0), (7, (b0 + 8), f1, s1), (0, b2, f2, s2), (2, (b0 + 26), f3, s3), (2, (b0 + 30), f4, s4)]) (h := h) [(3, (2, (b0 + 26), f3, s3)), (2, (0, b2, f2, s2))] ho ⟨rfl, rfl, trivial⟩).1 (fun x => (xovs (L := [(11, b0, f0, s0), (7, (b0 + 8), f1, s1), (0, b2, f2, s2), (2, (b0 + 26), f3, s3), (2, (b0 + 30), f4, s4)]) (h := h) [(3, (2, (b0 + 26), f3, x)), (2, (0, b2, f2, s2))] ho ⟨rfl, rfl, trivial⟩).1) (fun x hx => pX2_fill_ok (h := xw [(11, b0, f0, s0), (7, (b0 + 8), f1, s1), (0, b2, f2, s2), (2, (b0 + 26), f3, s3), (2, (b0 + 30), f4, s4)] h) (xok_sub ho [3, 2] rfl (by decide)) s3 s2 a0 x hx) rfl (fun x2 _ => ?_)
    refine s_aload_n (pc := 32) 1 dX11_like_32 rfl ?_
    refine xg_X11_40 0 ho rfl (pc := 33) dX11_like_33 rfl ?_
    refine s_aload_n (pc := 36) 1 dX11_like_36 rfl ?_
    refine xg_X11_25 0 ho rfl (pc := 37) dX11_like_37 rfl ?_
    refine xg_X11_174 1 ho rfl (pc := 40) dX11_like_40 rfl hq_1_0 ?_
    refine s_iload_n (pc := 43) 3 dX11_like_43 rfl ?_
    refine x_callV (M := MX11_like) (L := [(11, b0, f0, s0), (7, (b0 + 8), f1, s1), (0, b2, f2, s2), (2, (b0 + 26), f3, x2), (2, (b0 + 30), f4, s4)]) (h := h) (j := 4) (As := [.ref b2, .int a1]) (st := []) (A := fun (x : RS) => none) (Lc := [(2, (b0 + 30), f4, s4), (0, b2, f2, s2)]) (Lr := fun (x : RS) => [(2, (b0 + 30), f4, x), (0, b2, f2, s2)]) (L2 := fun (x : RS) => [(11, b0, f0, s0), (7, (b0 + 8), f1, s1), (0, b2, f2, s2), (2, (b0 + 26), f3, x2), (2, (b0 + 30), f4, x)]) cv_X11_265 (by decide) (pc := 44) dX11_like_44 ho rfl xc0_2 rfl rfl (Nat.le_of_ble_eq_true rfl) (xovs (L := [(11, b0, f0, s0), (7, (b0 + 8), f1, s1), (0, b2, f2, s2), (2, (b0 + 26), f3, x2), (2, (b0 + 30), f4, s4)]) (h := h) [(4, (2, (b0 + 30), f4, s4)), (2, (0, b2, f2, s2))] ho ⟨rfl, rfl, trivial⟩).1 (fun x => (xovs (L := [(11, b0, f0, s0), (7, (b0 + 8), f1, s1), (0, b2, f2, s2), (2, (b0 + 26), f3, x2), (2, (b0 + 30), f4, s4)]) (h := h) [(4, (2, (b0 + 30), f4, x)), (2, (0, b2, f2, s2))] ho ⟨rfl, rfl, trivial⟩).1) (fun x hx => pX2_fill_ok (h := xw [(11, b0, f0, s0), (7, (b0 + 8), f1, s1), (0, b2, f2, s2), (2, (b0 + 26), f3, x2), (2, (b0 + 30), f4, s4)] h) (xok_sub ho [4, 2] rfl (by decide)) s4 s2 a1 x hx) rfl (fun x3 _ => ?_)
    refine s_aload_n (pc := 47) 1 dX11_like_47 rfl ?_
    refine xg_X11_36 0 ho rfl (pc := 48) dX11_like_48 rfl ?_
    refine s_aload_n (pc := 51) 1 dX11_like_51 rfl ?_
    refine xg_X11_40 0 ho rfl (pc := 52) dX11_like_52 rfl ?_
    refine x_callV (M := MX11_like) (L := [(11, b0, f0, s0), (7, (b0 + 8), f1, s1), (0, b2, f2, s2), (2, (b0 + 26), f3, x2), (2, (b0 + 30), f4, x3)]) (h := h) (j := 3) (As := [.ref (b0 + 30)]) (st := []) (A := fun (x : Bool) => some (.int (b2i x))) (Lc := [(2, (b0 + 26), f3, x2), (2, (b0 + 30), f4, x3)]) (Lr := fun (x : Bool) => [(2, (b0 + 26), f3, x2), (2, (b0 + 30), f4, x3)]) (L2 := fun (x : Bool) => [(11, b0, f0, s0), (7, (b0 + 8), f1, s1), (0, b2, f2, s2), (2, (b0 + 26), f3, x2), (2, (b0 + 30), f4, x3)]) cv_X11_291 (by decide) (pc := 55) dX11_like_55 ho rfl xc0_2 rfl rfl (Nat.le_of_ble_eq_true rfl) (xovs (L := [(11, b0, f0, s0), (7, (b0 + 8), f1, s1), (0, b2, f2, s2), (2, (b0 + 26), f3, x2), (2, (b0 + 30), f4, x3)]) (h := h) [(3, (2, (b0 + 26), f3, x2)), (4, (2, (b0 + 30), f4, x3))] ho ⟨rfl, rfl, trivial⟩).1 (fun x => (xovs (L := [(11, b0, f0, s0), (7, (b0 + 8), f1, s1), (0, b2, f2, s2), (2, (b0 + 26), f3, x2), (2, (b0 + 30), f4, x3)]) (h := h) [(3, (2, (b0 + 26), f3, x2)), (4, (2, (b0 + 30), f4, x3))] ho ⟨rfl, rfl, trivial⟩).1) (fun x hx => pX2_isLike_ok (h := xw [(11, b0, f0, s0), (7, (b0 + 8), f1, s1), (0, b2, f2, s2), (2, (b0 + 26), f3, x2), (2, (b0 + 30), f4, x3)] h) (xok_sub ho [3, 4] rfl (by decide)) x2 x3 x hx) rfl (fun x4 _ => ?_)
    refine s_if_eqB (tgt := 80) (pc := 58) dX11_like_58 (by decide) (fun _ => ?_) (fun _ => ?_)
    · refine s_aload_n (pc := 61) 1 dX11_like_61 rfl ?_
      refine xg_X11_25 0 ho rfl (pc := 62) dX11_like_62 rfl ?_
      refine xg_X11_174 1 ho rfl (pc := 65) dX11_like_65 rfl hq_1_0 ?_
      refine s_iload_n (pc := 68) 2 dX11_like_68 rfl ?_
      refine s_iload_n (pc := 69) 3 dX11_like_69 rfl ?_
      refine x_callV (M := MX11_like) (L := [(11, b0, f0, s0), (7, (b0 + 8), f1, s1), (0, b2, f2, s2), (2, (b0 + 26), f3, x2), (2, (b0 + 30), f4, x3)]) (h := h) (j := 2) (As := [.int a0, .int a1]) (st := []) (A := fun (x : Bool) => some (.int (b2i x))) (Lc := [(0, b2, f2, s2)]) (Lr := fun (x : Bool) => [(0, b2, f2, s2)]) (L2 := fun (x : Bool) => [(11, b0, f0, s0), (7, (b0 + 8), f1, s1), (0, b2, f2, s2), (2, (b0 + 26), f3, x2), (2, (b0 + 30), f4, x3)]) cv_X11_295 (by decide) (pc := 70) dX11_like_70 ho rfl xc0_0 rfl rfl (Nat.le_of_ble_eq_true rfl) (xovs (L := [(11, b0, f0, s0), (7, (b0 + 8), f1, s1), (0, b2, f2, s2), (2, (b0 + 26), f3, x2), (2, (b0 + 30), f4, x3)]) (h := h) [(2, (0, b2, f2, s2))] ho ⟨rfl, trivial⟩).1 (fun x => (xovs (L := [(11, b0, f0, s0), (7, (b0 + 8), f1, s1), (0, b2, f2, s2), (2, (b0 + 26), f3, x2), (2, (b0 + 30), f4, x3)]) (h := h) [(2, (0, b2, f2, s2))] ho ⟨rfl, trivial⟩).1) (fun x hx => pX0_quarrelAlike_ok (h := xw [(11, b0, f0, s0), (7, (b0 + 8), f1, s1), (0, b2, f2, s2), (2, (b0 + 26), f3, x2), (2, (b0 + 30), f4, x3)] h) (xok_sub ho [2] rfl (by decide)) s2 a0 a1 x hx) rfl (fun x6 _ => ?_)
      refine s_if_eqB (tgt := 80) (pc := 73) dX11_like_73 (by decide) (fun _ => ?_) (fun _ => ?_)
      · refine s_iconst (v := 1) (pc := 76) dX11_like_76 (by decide) ?_
        refine s_goto (tgt := 81) (pc := 77) dX11_like_77 (by decide) ?_
        refine s_sub [1] rfl ?_
        exact X11_like_j81_ok ho hq_1_0 true s0 s1 s2 x2 x3
      · refine s_sub [1] rfl ?_
        exact X11_like_j80_ok ho hq_1_0 s0 s1 s2 x2 x3
    · refine s_sub [1] rfl ?_
      exact X11_like_j80_ok ho hq_1_0 s0 s1 s2 x2 x3
  · refine s_aload_n (pc := 11) 1 dX11_like_11 rfl ?_
    refine s_iload_n (pc := 12) 0 dX11_like_12 rfl ?_
    refine x_callV (M := MX11_like) (L := [(11, b0, f0, s0), (7, (b0 + 8), f1, s1), (0, b2, f2, s2), (2, (b0 + 26), f3, s3), (2, (b0 + 30), f4, s4)]) (h := h) (j := 0) (As := [.int x1]) (st := []) (A := fun (x : Int32 × RS) => some (.int x.1)) (Lc := [(11, b0, f0, s0)]) (Lr := fun (x : Int32 × RS) => [(11, b0, f0, x.2)]) (L2 := fun (x : Int32 × RS) => [(11, b0, f0, x.2), (7, (b0 + 8), f1, s1), (0, b2, f2, s2), (2, (b0 + 26), f3, s3), (2, (b0 + 30), f4, s4)]) cv_X11_113 (by decide) (pc := 13) dX11_like_13 ho rfl xc0_11 rfl rfl (Nat.le_of_ble_eq_true rfl) (xovs (L := [(11, b0, f0, s0), (7, (b0 + 8), f1, s1), (0, b2, f2, s2), (2, (b0 + 26), f3, s3), (2, (b0 + 30), f4, s4)]) (h := h) [(0, (11, b0, f0, s0))] ho ⟨rfl, trivial⟩).1 (fun x => (xovs (L := [(11, b0, f0, s0), (7, (b0 + 8), f1, s1), (0, b2, f2, s2), (2, (b0 + 26), f3, s3), (2, (b0 + 30), f4, s4)]) (h := h) [(0, (11, b0, f0, x.2))] ho ⟨rfl, trivial⟩).1) (fun x hx => pX11_refuse_ok (h := xw [(11, b0, f0, s0), (7, (b0 + 8), f1, s1), (0, b2, f2, s2), (2, (b0 + 26), f3, s3), (2, (b0 + 30), f4, s4)] h) (xok_sub ho [0] rfl (by decide)) s0 x1 x hx) rfl (fun x7 _ => ?_)
    exact s_iret (pc := 16) dX11_like_16 rfl (fun _ _ q => q)
theorem pX11_like_ok (ho : xok [(11, b0), (7, (b0 + 8)), (0, b2), (2, (b0 + 26)), (2, (b0 + 30))] h.2.1) (hq_1_0 : f1 0 = some b2) (s0 : RS) (s1 : RS) (s2 : RS) (s3 : RS) (s4 : RS) (a0 : Int32) (a1 : Int32) : ∀ x, pX11_like s0 s1 s2 s3 s4 a0 a1 = some x → aMet l 4 yX11_like cX11_like 5 (some .int) [.ref b0, .int a0, .int a1] (xw [(11, b0, f0, s0), (7, (b0 + 8), f1, s1), (0, b2, f2, s2), (2, (b0 + 26), f3, s3), (2, (b0 + 30), f4, s4)] h) (some (.int x.1)) (xw [(11, b0, f0, x.2.1), (7, (b0 + 8), f1, s1), (0, b2, f2, s2), (2, (b0 + 26), f3, x.2.2.1), (2, (b0 + 30), f4, x.2.2.2)] h) := fun x hx => a_meth (ini := false) (y := yX11_like) (by decide +kernel) (fun q => by cases q) (fun _ => Nat.le_of_ble_eq_true rfl) (pX11_like_w ho hq_1_0 s0 s1 s2 s3 s4 a0 a1) x hx _ _ ⟨rfl, rfl⟩
end
section
variable {l : Launch} {n0 S0 : Nat} {h : aH} {b0 b2 : Nat} {f0 f1 f2 f3 f4 : Nat → Option Nat}
abbrev MX11_apart : aM := (cX11_apart, RX11, 5, (some .int), false)
def pX11_apart (s0 : RS) (s1 : RS) (s2 : RS) (s3 : RS) (s4 : RS) (a0 : Int32) (a1 : Int32) : Option (Int32 × RS × RS × RS) :=
  (pX11_faultOfSets s0 s1 s2 a0 a1).bind fun x1 =>
  if x1 = 0 then
    (pX2_fill s3 s2 a0).bind fun x2 =>
    (pX2_fill s4 s2 a1).bind fun x3 =>
    (pX2_firstDifference x2 x3).bind fun x4 =>
    if x4 = (-1 : Int32) then
      (pX11_refuse s0 (8 : Int32)).bind fun x6 =>
      some (x6.1, x6.2, x2, x3)
    else
      (pX11_tell s0 x4).bind fun x5 =>
      some (x5.1, x5.2, x2, x3)
  else
    (pX11_refuse s0 x1).bind fun x7 =>
    some (x7.1, x7.2, s3, s4)
theorem pX11_apart_w (ho : xok [(11, b0), (7, (b0 + 8)), (0, b2), (2, (b0 + 26)), (2, (b0 + 30))] h.2.1) (hq_1_0 : f1 0 = some b2) (s0 : RS) (s1 : RS) (s2 : RS) (s3 : RS) (s4 : RS) (a0 : Int32) (a1 : Int32) : aS l 4 MX11_apart n0 S0 (oΦ (fun (x : Int32 × RS × RS × RS) => ((some (.int x.1)), xw [(11, b0, f0, x.2.1), (7, (b0 + 8), f1, s1), (0, b2, f2, s2), (2, (b0 + 26), f3, x.2.2.1), (2, (b0 + 30), f4, x.2.2.2)] h))) 0 [(0, .ref b0), (1, .int a0), (2, .int a1)] [] (xw [(11, b0, f0, s0), (7, (b0 + 8), f1, s1), (0, b2, f2, s2), (2, (b0 + 26), f3, s3), (2, (b0 + 30), f4, s4)] h) (pX11_apart s0 s1 s2 s3 s4 a0 a1) := by
  unfold pX11_apart
  refine s_aload_n (pc := 0) 0 dX11_apart_0 rfl ?_
  refine s_iload_n (pc := 1) 1 dX11_apart_1 rfl ?_
  refine s_iload_n (pc := 2) 2 dX11_apart_2 rfl ?_
  refine x_callV (M := MX11_apart) (L := [(11, b0, f0, s0), (7, (b0 + 8), f1, s1), (0, b2, f2, s2), (2, (b0 + 26), f3, s3), (2, (b0 + 30), f4, s4)]) (h := h) (j := 0) (As := [.int a0, .int a1]) (st := []) (A := fun (x : Int32) => some (.int x)) (Lc := [(11, b0, f0, s0), (7, (b0 + 8), f1, s1), (0, b2, f2, s2)]) (Lr := fun (x : Int32) => [(11, b0, f0, s0), (7, (b0 + 8), f1, s1), (0, b2, f2, s2)]) (L2 := fun (x : Int32) => [(11, b0, f0, s0), (7, (b0 + 8), f1, s1), (0, b2, f2, s2), (2, (b0 + 26), f3, s3), (2, (b0 + 30), f4, s4)]) cv_X11_288 (by decide) (pc := 3) dX11_apart_3 ho rfl xc0_11 rfl rfl (Nat.le_of_ble_eq_true rfl) (xovs (L := [(11, b0, f0, s0), (7, (b0 + 8), f1, s1), (0, b2, f2, s2), (2, (b0 + 26), f3, s3), (2, (b0 + 30), f4, s4)]) (h := h) [(0, (11, b0, f0, s0)), (1, (7, (b0 + 8), f1, s1)), (2, (0, b2, f2, s2))] ho ⟨rfl, rfl, rfl, trivial⟩).1 (fun x => (xovs (L := [(11, b0, f0, s0), (7, (b0 + 8), f1, s1), (0, b2, f2, s2), (2, (b0 + 26), f3, s3), (2, (b0 + 30), f4, s4)]) (h := h) [(0, (11, b0, f0, s0)), (1, (7, (b0 + 8), f1, s1)), (2, (0, b2, f2, s2))] ho ⟨rfl, rfl, rfl, trivial⟩).1) (fun x hx => pX11_faultOfSets_ok (h := xw [(11, b0, f0, s0), (7, (b0 + 8), f1, s1), (0, b2, f2, s2), (2, (b0 + 26), f3, s3), (2, (b0 + 30), f4, s4)] h) (xok_sub ho [0, 1, 2] rfl (by decide)) hq_1_0 s0 s1 s2 a0 a1 x hx) rfl (fun x1 _ => ?_)
  refine s_istore_n (lv' := [(3, .int x1), (0, .ref b0), (1, .int a0), (2, .int a1)]) (pc := 6) dX11_apart_6 (by decide) rfl ?_
  refine s_iload_n (pc := 7) 0 dX11_apart_7 rfl ?_
  refine s_if_eq (tgt := 17) (pc := 8) dX11_apart_8 (by decide) (fun _ => ?_) (fun _ => ?_)
  · refine s_aload_n (pc := 17) 1 dX11_apart_17 rfl ?_
    refine xg_X11_36 0 ho rfl (pc := 18) dX11_apart_18 rfl ?_
    refine s_aload_n (pc := 21) 1 dX11_apart_21 rfl ?_
    refine xg_X11_25 0 ho rfl (pc := 22) dX11_apart_22 rfl ?_
    refine xg_X11_174 1 ho rfl (pc := 25) dX11_apart_25 rfl hq_1_0 ?_
    refine s_iload_n (pc := 28) 2 dX11_apart_28 rfl ?_
    refine x_callV (M := MX11_apart) (L := [(11, b0, f0, s0), (7, (b0 + 8), f1, s1), (0, b2, f2, s2), (2, (b0 + 26), f3, s3), (2, (b0 + 30), f4, s4)]) (h := h) (j := 3) (As := [.ref b2, .int a0]) (st := []) (A := fun (x : RS) => none) (Lc := [(2, (b0 + 26), f3, s3), (0, b2, f2, s2)]) (Lr := fun (x : RS) => [(2, (b0 + 26), f3, x), (0, b2, f2, s2)]) (L2 := fun (x : RS) => [(11, b0, f0, s0), (7, (b0 + 8), f1, s1), (0, b2, f2, s2), (2, (b0 + 26), f3, x), (2, (b0 + 30), f4, s4)]) cv_X11_265 (by decide) (pc := 29) dX11_apart_29 ho rfl xc0_2 rfl rfl (Nat.le_of_ble_eq_true rfl) (xovs (L := [(11, b0, f0, s0), (7, (b0 + 8), f1, s1), (0, b2, f2, s2), (2, (b0 + 26), f3, s3), (2, (b0 + 30), f4, s4)]) (h := h) [(3, (2, (b0 + 26), f3, s3)), (2, (0, b2, f2, s2))] ho ⟨rfl, rfl, trivial⟩).1 (fun x => (xovs (L := [(11, b0, f0, s0), (7, (b0 + 8), f1, s1), (0, b2, f2, s2), (2, (b0 + 26), f3, s3), (2, (b0 + 30), f4, s4)]) (h := h) [(3, (2, (b0 + 26), f3, x)), (2, (0, b2, f2, s2))] ho ⟨rfl, rfl, trivial⟩).1) (fun x hx => pX2_fill_ok (h := xw [(11, b0, f0, s0), (7, (b0 + 8), f1, s1), (0, b2, f2, s2), (2, (b0 + 26), f3, s3), (2, (b0 + 30), f4, s4)] h) (xok_sub ho [3, 2] rfl (by decide)) s3 s2 a0 x hx) rfl (fun x2 _ => ?_)
    refine s_aload_n (pc := 32) 1 dX11_apart_32 rfl ?_
    refine xg_X11_40 0 ho rfl (pc := 33) dX11_apart_33 rfl ?_
    refine s_aload_n (pc := 36) 1 dX11_apart_36 rfl ?_
    refine xg_X11_25 0 ho rfl (pc := 37) dX11_apart_37 rfl ?_
    refine xg_X11_174 1 ho rfl (pc := 40) dX11_apart_40 rfl hq_1_0 ?_
    refine s_iload_n (pc := 43) 3 dX11_apart_43 rfl ?_
    refine x_callV (M := MX11_apart) (L := [(11, b0, f0, s0), (7, (b0 + 8), f1, s1), (0, b2, f2, s2), (2, (b0 + 26), f3, x2), (2, (b0 + 30), f4, s4)]) (h := h) (j := 4) (As := [.ref b2, .int a1]) (st := []) (A := fun (x : RS) => none) (Lc := [(2, (b0 + 30), f4, s4), (0, b2, f2, s2)]) (Lr := fun (x : RS) => [(2, (b0 + 30), f4, x), (0, b2, f2, s2)]) (L2 := fun (x : RS) => [(11, b0, f0, s0), (7, (b0 + 8), f1, s1), (0, b2, f2, s2), (2, (b0 + 26), f3, x2), (2, (b0 + 30), f4, x)]) cv_X11_265 (by decide) (pc := 44) dX11_apart_44 ho rfl xc0_2 rfl rfl (Nat.le_of_ble_eq_true rfl) (xovs (L := [(11, b0, f0, s0), (7, (b0 + 8), f1, s1), (0, b2, f2, s2), (2, (b0 + 26), f3, x2), (2, (b0 + 30), f4, s4)]) (h := h) [(4, (2, (b0 + 30), f4, s4)), (2, (0, b2, f2, s2))] ho ⟨rfl, rfl, trivial⟩).1 (fun x => (xovs (L := [(11, b0, f0, s0), (7, (b0 + 8), f1, s1), (0, b2, f2, s2), (2, (b0 + 26), f3, x2), (2, (b0 + 30), f4, s4)]) (h := h) [(4, (2, (b0 + 30), f4, x)), (2, (0, b2, f2, s2))] ho ⟨rfl, rfl, trivial⟩).1) (fun x hx => pX2_fill_ok (h := xw [(11, b0, f0, s0), (7, (b0 + 8), f1, s1), (0, b2, f2, s2), (2, (b0 + 26), f3, x2), (2, (b0 + 30), f4, s4)] h) (xok_sub ho [4, 2] rfl (by decide)) s4 s2 a1 x hx) rfl (fun x3 _ => ?_)
    refine s_aload_n (pc := 47) 1 dX11_apart_47 rfl ?_
    refine xg_X11_36 0 ho rfl (pc := 48) dX11_apart_48 rfl ?_
    refine s_aload_n (pc := 51) 1 dX11_apart_51 rfl ?_
    refine xg_X11_40 0 ho rfl (pc := 52) dX11_apart_52 rfl ?_
    refine x_callV (M := MX11_apart) (L := [(11, b0, f0, s0), (7, (b0 + 8), f1, s1), (0, b2, f2, s2), (2, (b0 + 26), f3, x2), (2, (b0 + 30), f4, x3)]) (h := h) (j := 3) (As := [.ref (b0 + 30)]) (st := []) (A := fun (x : Int32) => some (.int x)) (Lc := [(2, (b0 + 26), f3, x2), (2, (b0 + 30), f4, x3)]) (Lr := fun (x : Int32) => [(2, (b0 + 26), f3, x2), (2, (b0 + 30), f4, x3)]) (L2 := fun (x : Int32) => [(11, b0, f0, s0), (7, (b0 + 8), f1, s1), (0, b2, f2, s2), (2, (b0 + 26), f3, x2), (2, (b0 + 30), f4, x3)]) cv_X11_298 (by decide) (pc := 55) dX11_apart_55 ho rfl xc0_2 rfl rfl (Nat.le_of_ble_eq_true rfl) (xovs (L := [(11, b0, f0, s0), (7, (b0 + 8), f1, s1), (0, b2, f2, s2), (2, (b0 + 26), f3, x2), (2, (b0 + 30), f4, x3)]) (h := h) [(3, (2, (b0 + 26), f3, x2)), (4, (2, (b0 + 30), f4, x3))] ho ⟨rfl, rfl, trivial⟩).1 (fun x => (xovs (L := [(11, b0, f0, s0), (7, (b0 + 8), f1, s1), (0, b2, f2, s2), (2, (b0 + 26), f3, x2), (2, (b0 + 30), f4, x3)]) (h := h) [(3, (2, (b0 + 26), f3, x2)), (4, (2, (b0 + 30), f4, x3))] ho ⟨rfl, rfl, trivial⟩).1) (fun x hx => pX2_firstDifference_ok (h := xw [(11, b0, f0, s0), (7, (b0 + 8), f1, s1), (0, b2, f2, s2), (2, (b0 + 26), f3, x2), (2, (b0 + 30), f4, x3)] h) (xok_sub ho [3, 4] rfl (by decide)) x2 x3 x hx) rfl (fun x4 _ => ?_)
    refine s_istore (lv' := [(4, .int x4), (3, .int x1), (0, .ref b0), (1, .int a0), (2, .int a1)]) (pc := 58) dX11_apart_58 (by decide) rfl ?_
    refine s_iload (pc := 60) 0 dX11_apart_60 rfl ?_
    refine s_iconst (v := (-1)) (pc := 62) dX11_apart_62 (by decide) ?_
    refine s_icmp_ne (tgt := 75) (pc := 63) dX11_apart_63 (by decide) (fun _ => ?_) (fun _ => ?_)
    · refine s_aload_n (pc := 66) 2 dX11_apart_66 rfl ?_
      refine s_bipush (v := 8) (pc := 67) dX11_apart_67 (by decide) ?_
      refine x_callV (M := MX11_apart) (L := [(11, b0, f0, s0), (7, (b0 + 8), f1, s1), (0, b2, f2, s2), (2, (b0 + 26), f3, x2), (2, (b0 + 30), f4, x3)]) (h := h) (j := 0) (As := [.int 8]) (st := []) (A := fun (x : Int32 × RS) => some (.int x.1)) (Lc := [(11, b0, f0, s0)]) (Lr := fun (x : Int32 × RS) => [(11, b0, f0, x.2)]) (L2 := fun (x : Int32 × RS) => [(11, b0, f0, x.2), (7, (b0 + 8), f1, s1), (0, b2, f2, s2), (2, (b0 + 26), f3, x2), (2, (b0 + 30), f4, x3)]) cv_X11_113 (by decide) (pc := 69) dX11_apart_69 ho rfl xc0_11 rfl rfl (Nat.le_of_ble_eq_true rfl) (xovs (L := [(11, b0, f0, s0), (7, (b0 + 8), f1, s1), (0, b2, f2, s2), (2, (b0 + 26), f3, x2), (2, (b0 + 30), f4, x3)]) (h := h) [(0, (11, b0, f0, s0))] ho ⟨rfl, trivial⟩).1 (fun x => (xovs (L := [(11, b0, f0, s0), (7, (b0 + 8), f1, s1), (0, b2, f2, s2), (2, (b0 + 26), f3, x2), (2, (b0 + 30), f4, x3)]) (h := h) [(0, (11, b0, f0, x.2))] ho ⟨rfl, trivial⟩).1) (fun x hx => pX11_refuse_ok (h := xw [(11, b0, f0, s0), (7, (b0 + 8), f1, s1), (0, b2, f2, s2), (2, (b0 + 26), f3, x2), (2, (b0 + 30), f4, x3)] h) (xok_sub ho [0] rfl (by decide)) s0 (8 : Int32) x hx) rfl (fun x6 _ => ?_)
      refine s_goto (tgt := 81) (pc := 72) dX11_apart_72 (by decide) ?_
      exact s_iret (pc := 81) dX11_apart_81 rfl (fun _ _ q => q)
    · refine s_aload_n (pc := 75) 2 dX11_apart_75 rfl ?_
      refine s_iload (pc := 76) 0 dX11_apart_76 rfl ?_
      refine x_callV (M := MX11_apart) (L := [(11, b0, f0, s0), (7, (b0 + 8), f1, s1), (0, b2, f2, s2), (2, (b0 + 26), f3, x2), (2, (b0 + 30), f4, x3)]) (h := h) (j := 0) (As := [.int x4]) (st := []) (A := fun (x : Int32 × RS) => some (.int x.1)) (Lc := [(11, b0, f0, s0)]) (Lr := fun (x : Int32 × RS) => [(11, b0, f0, x.2)]) (L2 := fun (x : Int32 × RS) => [(11, b0, f0, x.2), (7, (b0 + 8), f1, s1), (0, b2, f2, s2), (2, (b0 + 26), f3, x2), (2, (b0 + 30), f4, x3)]) cv_X11_169 (by decide) (pc := 78) dX11_apart_78 ho rfl xc0_11 rfl rfl (Nat.le_of_ble_eq_true rfl) (xovs (L := [(11, b0, f0, s0), (7, (b0 + 8), f1, s1), (0, b2, f2, s2), (2, (b0 + 26), f3, x2), (2, (b0 + 30), f4, x3)]) (h := h) [(0, (11, b0, f0, s0))] ho ⟨rfl, trivial⟩).1 (fun x => (xovs (L := [(11, b0, f0, s0), (7, (b0 + 8), f1, s1), (0, b2, f2, s2), (2, (b0 + 26), f3, x2), (2, (b0 + 30), f4, x3)]) (h := h) [(0, (11, b0, f0, x.2))] ho ⟨rfl, trivial⟩).1) (fun x hx => pX11_tell_ok (h := xw [(11, b0, f0, s0), (7, (b0 + 8), f1, s1), (0, b2, f2, s2), (2, (b0 + 26), f3, x2), (2, (b0 + 30), f4, x3)] h) (xok_sub ho [0] rfl (by decide)) s0 x4 x hx) rfl (fun x5 _ => ?_)
      exact s_iret (pc := 81) dX11_apart_81 rfl (fun _ _ q => q)
  · refine s_aload_n (pc := 11) 1 dX11_apart_11 rfl ?_
    refine s_iload_n (pc := 12) 0 dX11_apart_12 rfl ?_
    refine x_callV (M := MX11_apart) (L := [(11, b0, f0, s0), (7, (b0 + 8), f1, s1), (0, b2, f2, s2), (2, (b0 + 26), f3, s3), (2, (b0 + 30), f4, s4)]) (h := h) (j := 0) (As := [.int x1]) (st := []) (A := fun (x : Int32 × RS) => some (.int x.1)) (Lc := [(11, b0, f0, s0)]) (Lr := fun (x : Int32 × RS) => [(11, b0, f0, x.2)]) (L2 := fun (x : Int32 × RS) => [(11, b0, f0, x.2), (7, (b0 + 8), f1, s1), (0, b2, f2, s2), (2, (b0 + 26), f3, s3), (2, (b0 + 30), f4, s4)]) cv_X11_113 (by decide) (pc := 13) dX11_apart_13 ho rfl xc0_11 rfl rfl (Nat.le_of_ble_eq_true rfl) (xovs (L := [(11, b0, f0, s0), (7, (b0 + 8), f1, s1), (0, b2, f2, s2), (2, (b0 + 26), f3, s3), (2, (b0 + 30), f4, s4)]) (h := h) [(0, (11, b0, f0, s0))] ho ⟨rfl, trivial⟩).1 (fun x => (xovs (L := [(11, b0, f0, s0), (7, (b0 + 8), f1, s1), (0, b2, f2, s2), (2, (b0 + 26), f3, s3), (2, (b0 + 30), f4, s4)]) (h := h) [(0, (11, b0, f0, x.2))] ho ⟨rfl, trivial⟩).1) (fun x hx => pX11_refuse_ok (h := xw [(11, b0, f0, s0), (7, (b0 + 8), f1, s1), (0, b2, f2, s2), (2, (b0 + 26), f3, s3), (2, (b0 + 30), f4, s4)] h) (xok_sub ho [0] rfl (by decide)) s0 x1 x hx) rfl (fun x7 _ => ?_)
    exact s_iret (pc := 16) dX11_apart_16 rfl (fun _ _ q => q)
theorem pX11_apart_ok (ho : xok [(11, b0), (7, (b0 + 8)), (0, b2), (2, (b0 + 26)), (2, (b0 + 30))] h.2.1) (hq_1_0 : f1 0 = some b2) (s0 : RS) (s1 : RS) (s2 : RS) (s3 : RS) (s4 : RS) (a0 : Int32) (a1 : Int32) : ∀ x, pX11_apart s0 s1 s2 s3 s4 a0 a1 = some x → aMet l 4 yX11_apart cX11_apart 5 (some .int) [.ref b0, .int a0, .int a1] (xw [(11, b0, f0, s0), (7, (b0 + 8), f1, s1), (0, b2, f2, s2), (2, (b0 + 26), f3, s3), (2, (b0 + 30), f4, s4)] h) (some (.int x.1)) (xw [(11, b0, f0, x.2.1), (7, (b0 + 8), f1, s1), (0, b2, f2, s2), (2, (b0 + 26), f3, x.2.2.1), (2, (b0 + 30), f4, x.2.2.2)] h) := fun x hx => a_meth (ini := false) (y := yX11_apart) (by decide +kernel) (fun q => by cases q) (fun _ => Nat.le_of_ble_eq_true rfl) (pX11_apart_w ho hq_1_0 s0 s1 s2 s3 s4 a0 a1) x hx _ _ ⟨rfl, rfl⟩
end
section
variable {l : Launch} {n0 S0 : Nat} {h : aH} {b0 b2 : Nat} {f0 f1 f2 : Nat → Option Nat}
abbrev MX11_quarrels : aM := (cX11_quarrels, RX11, 2, (some .int), false)
def pX11_quarrels (s0 : RS) (s1 : RS) (s2 : RS) (a0 : Int32) : Option (Int32 × RS) :=
  (pX0_isSet s2 a0).bind fun x1 =>
  if x1 = true then
    (pX0_countQuarrels s2 a0).bind fun x2 =>
    (pX11_tell s0 x2).bind fun x3 =>
    some (x3.1, x3.2)
  else
    (pX11_refuse s0 (2 : Int32)).bind fun x4 =>
    some (x4.1, x4.2)
theorem pX11_quarrels_w (ho : xok [(11, b0), (7, (b0 + 8)), (0, b2)] h.2.1) (hq_1_0 : f1 0 = some b2) (s0 : RS) (s1 : RS) (s2 : RS) (a0 : Int32) : aS l 3 MX11_quarrels n0 S0 (oΦ (fun (x : Int32 × RS) => ((some (.int x.1)), xw [(11, b0, f0, x.2), (7, (b0 + 8), f1, s1), (0, b2, f2, s2)] h))) 0 [(0, .ref b0), (1, .int a0)] [] (xw [(11, b0, f0, s0), (7, (b0 + 8), f1, s1), (0, b2, f2, s2)] h) (pX11_quarrels s0 s1 s2 a0) := by
  unfold pX11_quarrels
  refine s_aload_n (pc := 0) 0 dX11_quarrels_0 rfl ?_
  refine xg_X11_25 0 ho rfl (pc := 1) dX11_quarrels_1 rfl ?_
  refine xg_X11_174 1 ho rfl (pc := 4) dX11_quarrels_4 rfl hq_1_0 ?_
  refine s_iload_n (pc := 7) 1 dX11_quarrels_7 rfl ?_
  refine x_callV (M := MX11_quarrels) (L := [(11, b0, f0, s0), (7, (b0 + 8), f1, s1), (0, b2, f2, s2)]) (h := h) (j := 2) (As := [.int a0]) (st := []) (A := fun (x : Bool) => some (.int (b2i x))) (Lc := [(0, b2, f2, s2)]) (Lr := fun (x : Bool) => [(0, b2, f2, s2)]) (L2 := fun (x : Bool) => [(11, b0, f0, s0), (7, (b0 + 8), f1, s1), (0, b2, f2, s2)]) cv_X11_241 (by decide) (pc := 8) dX11_quarrels_8 ho rfl xc0_0 rfl rfl (Nat.le_of_ble_eq_true rfl) (xovs (L := [(11, b0, f0, s0), (7, (b0 + 8), f1, s1), (0, b2, f2, s2)]) (h := h) [(2, (0, b2, f2, s2))] ho ⟨rfl, trivial⟩).1 (fun x => (xovs (L := [(11, b0, f0, s0), (7, (b0 + 8), f1, s1), (0, b2, f2, s2)]) (h := h) [(2, (0, b2, f2, s2))] ho ⟨rfl, trivial⟩).1) (fun x hx => pX0_isSet_ok (h := xw [(11, b0, f0, s0), (7, (b0 + 8), f1, s1), (0, b2, f2, s2)] h) (xok_sub ho [2] rfl (by decide)) s2 a0 x hx) rfl (fun x1 _ => ?_)
  refine s_if_neB (tgt := 20) (pc := 11) dX11_quarrels_11 (by decide) (fun _ => ?_) (fun _ => ?_)
  · refine s_aload_n (pc := 20) 0 dX11_quarrels_20 rfl ?_
    refine s_aload_n (pc := 21) 0 dX11_quarrels_21 rfl ?_
    refine xg_X11_25 0 ho rfl (pc := 22) dX11_quarrels_22 rfl ?_
    refine xg_X11_174 1 ho rfl (pc := 25) dX11_quarrels_25 rfl hq_1_0 ?_
    refine s_iload_n (pc := 28) 1 dX11_quarrels_28 rfl ?_
    refine x_callV (M := MX11_quarrels) (L := [(11, b0, f0, s0), (7, (b0 + 8), f1, s1), (0, b2, f2, s2)]) (h := h) (j := 2) (As := [.int a0]) (st := [.ref b0]) (A := fun (x : Int32) => some (.int x)) (Lc := [(0, b2, f2, s2)]) (Lr := fun (x : Int32) => [(0, b2, f2, s2)]) (L2 := fun (x : Int32) => [(11, b0, f0, s0), (7, (b0 + 8), f1, s1), (0, b2, f2, s2)]) cv_X11_302 (by decide) (pc := 29) dX11_quarrels_29 ho rfl xc0_0 rfl rfl (Nat.le_of_ble_eq_true rfl) (xovs (L := [(11, b0, f0, s0), (7, (b0 + 8), f1, s1), (0, b2, f2, s2)]) (h := h) [(2, (0, b2, f2, s2))] ho ⟨rfl, trivial⟩).1 (fun x => (xovs (L := [(11, b0, f0, s0), (7, (b0 + 8), f1, s1), (0, b2, f2, s2)]) (h := h) [(2, (0, b2, f2, s2))] ho ⟨rfl, trivial⟩).1) (fun x hx => pX0_countQuarrels_ok (h := xw [(11, b0, f0, s0), (7, (b0 + 8), f1, s1), (0, b2, f2, s2)] h) (xok_sub ho [2] rfl (by decide)) s2 a0 x hx) rfl (fun x2 _ => ?_)
    refine x_callV (M := MX11_quarrels) (L := [(11, b0, f0, s0), (7, (b0 + 8), f1, s1), (0, b2, f2, s2)]) (h := h) (j := 0) (As := [.int x2]) (st := []) (A := fun (x : Int32 × RS) => some (.int x.1)) (Lc := [(11, b0, f0, s0)]) (Lr := fun (x : Int32 × RS) => [(11, b0, f0, x.2)]) (L2 := fun (x : Int32 × RS) => [(11, b0, f0, x.2), (7, (b0 + 8), f1, s1), (0, b2, f2, s2)]) cv_X11_169 (by decide) (pc := 32) dX11_quarrels_32 ho rfl xc0_11 rfl rfl (Nat.le_of_ble_eq_true rfl) (xovs (L := [(11, b0, f0, s0), (7, (b0 + 8), f1, s1), (0, b2, f2, s2)]) (h := h) [(0, (11, b0, f0, s0))] ho ⟨rfl, trivial⟩).1 (fun x => (xovs (L := [(11, b0, f0, s0), (7, (b0 + 8), f1, s1), (0, b2, f2, s2)]) (h := h) [(0, (11, b0, f0, x.2))] ho ⟨rfl, trivial⟩).1) (fun x hx => pX11_tell_ok (h := xw [(11, b0, f0, s0), (7, (b0 + 8), f1, s1), (0, b2, f2, s2)] h) (xok_sub ho [0] rfl (by decide)) s0 x2 x hx) rfl (fun x3 _ => ?_)
    exact s_iret (pc := 35) dX11_quarrels_35 rfl (fun _ _ q => q)
  · refine s_aload_n (pc := 14) 0 dX11_quarrels_14 rfl ?_
    refine s_iconst (v := 2) (pc := 15) dX11_quarrels_15 (by decide) ?_
    refine x_callV (M := MX11_quarrels) (L := [(11, b0, f0, s0), (7, (b0 + 8), f1, s1), (0, b2, f2, s2)]) (h := h) (j := 0) (As := [.int 2]) (st := []) (A := fun (x : Int32 × RS) => some (.int x.1)) (Lc := [(11, b0, f0, s0)]) (Lr := fun (x : Int32 × RS) => [(11, b0, f0, x.2)]) (L2 := fun (x : Int32 × RS) => [(11, b0, f0, x.2), (7, (b0 + 8), f1, s1), (0, b2, f2, s2)]) cv_X11_113 (by decide) (pc := 16) dX11_quarrels_16 ho rfl xc0_11 rfl rfl (Nat.le_of_ble_eq_true rfl) (xovs (L := [(11, b0, f0, s0), (7, (b0 + 8), f1, s1), (0, b2, f2, s2)]) (h := h) [(0, (11, b0, f0, s0))] ho ⟨rfl, trivial⟩).1 (fun x => (xovs (L := [(11, b0, f0, s0), (7, (b0 + 8), f1, s1), (0, b2, f2, s2)]) (h := h) [(0, (11, b0, f0, x.2))] ho ⟨rfl, trivial⟩).1) (fun x hx => pX11_refuse_ok (h := xw [(11, b0, f0, s0), (7, (b0 + 8), f1, s1), (0, b2, f2, s2)] h) (xok_sub ho [0] rfl (by decide)) s0 (2 : Int32) x hx) rfl (fun x4 _ => ?_)
    exact s_iret (pc := 19) dX11_quarrels_19 rfl (fun _ _ q => q)
theorem pX11_quarrels_ok (ho : xok [(11, b0), (7, (b0 + 8)), (0, b2)] h.2.1) (hq_1_0 : f1 0 = some b2) (s0 : RS) (s1 : RS) (s2 : RS) (a0 : Int32) : ∀ x, pX11_quarrels s0 s1 s2 a0 = some x → aMet l 3 yX11_quarrels cX11_quarrels 2 (some .int) [.ref b0, .int a0] (xw [(11, b0, f0, s0), (7, (b0 + 8), f1, s1), (0, b2, f2, s2)] h) (some (.int x.1)) (xw [(11, b0, f0, x.2), (7, (b0 + 8), f1, s1), (0, b2, f2, s2)] h) := fun x hx => a_meth (ini := false) (y := yX11_quarrels) (by decide +kernel) (fun q => by cases q) (fun _ => Nat.le_of_ble_eq_true rfl) (pX11_quarrels_w ho hq_1_0 s0 s1 s2 a0) x hx _ _ ⟨rfl, rfl⟩
end
section
variable {l : Launch} {n0 S0 : Nat} {h : aH} {b0 b2 : Nat} {f0 f1 f2 : Nat → Option Nat}
abbrev MX11_with : aM := (cX11_with, RX11, 3, (some .int), false)
def X11_with_j28 (s0 : RS) (s1 : RS) (s2 : RS) : Option (Int32 × RS) :=
  (pX11_refuse s0 (2 : Int32)).bind fun x2 =>
  some (x2.1, x2.2)
theorem X11_with_j28_ok (ho : xok [(11, b0), (7, (b0 + 8)), (0, b2)] h.2.1) (hq_1_0 : f1 0 = some b2) (s0 : RS) (s1 : RS) (s2 : RS) : aS l 2 MX11_with n0 S0 (oΦ (fun (x : Int32 × RS) => ((some (.int x.1)), xw [(11, b0, f0, x.2), (7, (b0 + 8), f1, s1), (0, b2, f2, s2)] h))) 28 [(0, .ref b0)] [] (xw [(11, b0, f0, s0), (7, (b0 + 8), f1, s1), (0, b2, f2, s2)] h) (X11_with_j28 s0 s1 s2) := by
  unfold X11_with_j28
  refine s_aload_n (pc := 28) 0 dX11_with_28 rfl ?_
  refine s_iconst (v := 2) (pc := 29) dX11_with_29 (by decide) ?_
  refine x_callV (M := MX11_with) (L := [(11, b0, f0, s0), (7, (b0 + 8), f1, s1), (0, b2, f2, s2)]) (h := h) (j := 0) (As := [.int 2]) (st := []) (A := fun (x : Int32 × RS) => some (.int x.1)) (Lc := [(11, b0, f0, s0)]) (Lr := fun (x : Int32 × RS) => [(11, b0, f0, x.2)]) (L2 := fun (x : Int32 × RS) => [(11, b0, f0, x.2), (7, (b0 + 8), f1, s1), (0, b2, f2, s2)]) cv_X11_113 (by decide) (pc := 30) dX11_with_30 ho rfl xc0_11 rfl rfl (Nat.le_of_ble_eq_true rfl) (xovs (L := [(11, b0, f0, s0), (7, (b0 + 8), f1, s1), (0, b2, f2, s2)]) (h := h) [(0, (11, b0, f0, s0))] ho ⟨rfl, trivial⟩).1 (fun x => (xovs (L := [(11, b0, f0, s0), (7, (b0 + 8), f1, s1), (0, b2, f2, s2)]) (h := h) [(0, (11, b0, f0, x.2))] ho ⟨rfl, trivial⟩).1) (fun x hx => pX11_refuse_ok (h := xw [(11, b0, f0, s0), (7, (b0 + 8), f1, s1), (0, b2, f2, s2)] h) (xok_sub ho [0] rfl (by decide)) s0 (2 : Int32) x hx) rfl (fun x2 _ => ?_)
  exact s_iret (pc := 33) dX11_with_33 rfl (fun _ _ q => q)
def pX11_with (s0 : RS) (s1 : RS) (s2 : RS) (a0 : Int32) (a1 : Int32) : Option (Int32 × RS) :=
  (pX0_isSet s2 a0).bind fun x1 =>
  if x1 = true then
    (pX0_isChange s2 a1).bind fun x3 =>
    if x3 = true then
      (pX0_isIn a0 a1).bind fun x4 =>
      if x4 = true then
        (pX0_quarrelersOf s2 a0 a1).bind fun x5 =>
        (pX11_tell s0 x5).bind fun x6 =>
        some (x6.1, x6.2)
      else
        (pX11_refuse s0 (8 : Int32)).bind fun x7 =>
        some (x7.1, x7.2)
    else
      X11_with_j28 s0 s1 s2
  else
    X11_with_j28 s0 s1 s2
theorem pX11_with_w (ho : xok [(11, b0), (7, (b0 + 8)), (0, b2)] h.2.1) (hq_1_0 : f1 0 = some b2) (s0 : RS) (s1 : RS) (s2 : RS) (a0 : Int32) (a1 : Int32) : aS l 2 MX11_with n0 S0 (oΦ (fun (x : Int32 × RS) => ((some (.int x.1)), xw [(11, b0, f0, x.2), (7, (b0 + 8), f1, s1), (0, b2, f2, s2)] h))) 0 [(0, .ref b0), (1, .int a0), (2, .int a1)] [] (xw [(11, b0, f0, s0), (7, (b0 + 8), f1, s1), (0, b2, f2, s2)] h) (pX11_with s0 s1 s2 a0 a1) := by
  unfold pX11_with
  refine s_aload_n (pc := 0) 0 dX11_with_0 rfl ?_
  refine xg_X11_25 0 ho rfl (pc := 1) dX11_with_1 rfl ?_
  refine xg_X11_174 1 ho rfl (pc := 4) dX11_with_4 rfl hq_1_0 ?_
  refine s_iload_n (pc := 7) 1 dX11_with_7 rfl ?_
  refine x_callV (M := MX11_with) (L := [(11, b0, f0, s0), (7, (b0 + 8), f1, s1), (0, b2, f2, s2)]) (h := h) (j := 2) (As := [.int a0]) (st := []) (A := fun (x : Bool) => some (.int (b2i x))) (Lc := [(0, b2, f2, s2)]) (Lr := fun (x : Bool) => [(0, b2, f2, s2)]) (L2 := fun (x : Bool) => [(11, b0, f0, s0), (7, (b0 + 8), f1, s1), (0, b2, f2, s2)]) cv_X11_241 (by decide) (pc := 8) dX11_with_8 ho rfl xc0_0 rfl rfl (Nat.le_of_ble_eq_true rfl) (xovs (L := [(11, b0, f0, s0), (7, (b0 + 8), f1, s1), (0, b2, f2, s2)]) (h := h) [(2, (0, b2, f2, s2))] ho ⟨rfl, trivial⟩).1 (fun x => (xovs (L := [(11, b0, f0, s0), (7, (b0 + 8), f1, s1), (0, b2, f2, s2)]) (h := h) [(2, (0, b2, f2, s2))] ho ⟨rfl, trivial⟩).1) (fun x hx => pX0_isSet_ok (h := xw [(11, b0, f0, s0), (7, (b0 + 8), f1, s1), (0, b2, f2, s2)] h) (xok_sub ho [2] rfl (by decide)) s2 a0 x hx) rfl (fun x1 _ => ?_)
  refine s_if_eqB (tgt := 28) (pc := 11) dX11_with_11 (by decide) (fun _ => ?_) (fun _ => ?_)
  · refine s_aload_n (pc := 14) 0 dX11_with_14 rfl ?_
    refine xg_X11_25 0 ho rfl (pc := 15) dX11_with_15 rfl ?_
    refine xg_X11_174 1 ho rfl (pc := 18) dX11_with_18 rfl hq_1_0 ?_
    refine s_iload_n (pc := 21) 2 dX11_with_21 rfl ?_
    refine x_callV (M := MX11_with) (L := [(11, b0, f0, s0), (7, (b0 + 8), f1, s1), (0, b2, f2, s2)]) (h := h) (j := 2) (As := [.int a1]) (st := []) (A := fun (x : Bool) => some (.int (b2i x))) (Lc := [(0, b2, f2, s2)]) (Lr := fun (x : Bool) => [(0, b2, f2, s2)]) (L2 := fun (x : Bool) => [(11, b0, f0, s0), (7, (b0 + 8), f1, s1), (0, b2, f2, s2)]) cv_X11_212 (by decide) (pc := 22) dX11_with_22 ho rfl xc0_0 rfl rfl (Nat.le_of_ble_eq_true rfl) (xovs (L := [(11, b0, f0, s0), (7, (b0 + 8), f1, s1), (0, b2, f2, s2)]) (h := h) [(2, (0, b2, f2, s2))] ho ⟨rfl, trivial⟩).1 (fun x => (xovs (L := [(11, b0, f0, s0), (7, (b0 + 8), f1, s1), (0, b2, f2, s2)]) (h := h) [(2, (0, b2, f2, s2))] ho ⟨rfl, trivial⟩).1) (fun x hx => pX0_isChange_ok (h := xw [(11, b0, f0, s0), (7, (b0 + 8), f1, s1), (0, b2, f2, s2)] h) (xok_sub ho [2] rfl (by decide)) s2 a1 x hx) rfl (fun x3 _ => ?_)
    refine s_if_neB (tgt := 34) (pc := 25) dX11_with_25 (by decide) (fun _ => ?_) (fun _ => ?_)
    · refine s_iload_n (pc := 34) 1 dX11_with_34 rfl ?_
      refine s_iload_n (pc := 35) 2 dX11_with_35 rfl ?_
      refine s_callS (M := MX11_with) (As := [.int a0, .int a1]) (st := []) (Ψ := fun (x : Bool) => (some (.int (b2i x)), xw [(11, b0, f0, s0), (7, (b0 + 8), f1, s1), (0, b2, f2, s2)] h)) cs_X11_305 (by decide) (pc := 36) dX11_with_36 rfl (Nat.le_of_ble_eq_true rfl) (fun x hx => pX0_isIn_ok a0 a1 x hx) rfl (fun x4 _ => ?_)
      refine s_if_neB (tgt := 49) (pc := 39) dX11_with_39 (by decide) (fun _ => ?_) (fun _ => ?_)
      · refine s_aload_n (pc := 49) 0 dX11_with_49 rfl ?_
        refine s_aload_n (pc := 50) 0 dX11_with_50 rfl ?_
        refine xg_X11_25 0 ho rfl (pc := 51) dX11_with_51 rfl ?_
        refine xg_X11_174 1 ho rfl (pc := 54) dX11_with_54 rfl hq_1_0 ?_
        refine s_iload_n (pc := 57) 1 dX11_with_57 rfl ?_
        refine s_iload_n (pc := 58) 2 dX11_with_58 rfl ?_
        refine x_callV (M := MX11_with) (L := [(11, b0, f0, s0), (7, (b0 + 8), f1, s1), (0, b2, f2, s2)]) (h := h) (j := 2) (As := [.int a0, .int a1]) (st := [.ref b0]) (A := fun (x : Int32) => some (.int x)) (Lc := [(0, b2, f2, s2)]) (Lr := fun (x : Int32) => [(0, b2, f2, s2)]) (L2 := fun (x : Int32) => [(11, b0, f0, s0), (7, (b0 + 8), f1, s1), (0, b2, f2, s2)]) cv_X11_308 (by decide) (pc := 59) dX11_with_59 ho rfl xc0_0 rfl rfl (Nat.le_of_ble_eq_true rfl) (xovs (L := [(11, b0, f0, s0), (7, (b0 + 8), f1, s1), (0, b2, f2, s2)]) (h := h) [(2, (0, b2, f2, s2))] ho ⟨rfl, trivial⟩).1 (fun x => (xovs (L := [(11, b0, f0, s0), (7, (b0 + 8), f1, s1), (0, b2, f2, s2)]) (h := h) [(2, (0, b2, f2, s2))] ho ⟨rfl, trivial⟩).1) (fun x hx => pX0_quarrelersOf_ok (h := xw [(11, b0, f0, s0), (7, (b0 + 8), f1, s1), (0, b2, f2, s2)] h) (xok_sub ho [2] rfl (by decide)) s2 a0 a1 x hx) rfl (fun x5 _ => ?_)
        refine x_callV (M := MX11_with) (L := [(11, b0, f0, s0), (7, (b0 + 8), f1, s1), (0, b2, f2, s2)]) (h := h) (j := 0) (As := [.int x5]) (st := []) (A := fun (x : Int32 × RS) => some (.int x.1)) (Lc := [(11, b0, f0, s0)]) (Lr := fun (x : Int32 × RS) => [(11, b0, f0, x.2)]) (L2 := fun (x : Int32 × RS) => [(11, b0, f0, x.2), (7, (b0 + 8), f1, s1), (0, b2, f2, s2)]) cv_X11_169 (by decide) (pc := 62) dX11_with_62 ho rfl xc0_11 rfl rfl (Nat.le_of_ble_eq_true rfl) (xovs (L := [(11, b0, f0, s0), (7, (b0 + 8), f1, s1), (0, b2, f2, s2)]) (h := h) [(0, (11, b0, f0, s0))] ho ⟨rfl, trivial⟩).1 (fun x => (xovs (L := [(11, b0, f0, s0), (7, (b0 + 8), f1, s1), (0, b2, f2, s2)]) (h := h) [(0, (11, b0, f0, x.2))] ho ⟨rfl, trivial⟩).1) (fun x hx => pX11_tell_ok (h := xw [(11, b0, f0, s0), (7, (b0 + 8), f1, s1), (0, b2, f2, s2)] h) (xok_sub ho [0] rfl (by decide)) s0 x5 x hx) rfl (fun x6 _ => ?_)
        exact s_iret (pc := 65) dX11_with_65 rfl (fun _ _ q => q)
      · refine s_aload_n (pc := 42) 0 dX11_with_42 rfl ?_
        refine s_bipush (v := 8) (pc := 43) dX11_with_43 (by decide) ?_
        refine x_callV (M := MX11_with) (L := [(11, b0, f0, s0), (7, (b0 + 8), f1, s1), (0, b2, f2, s2)]) (h := h) (j := 0) (As := [.int 8]) (st := []) (A := fun (x : Int32 × RS) => some (.int x.1)) (Lc := [(11, b0, f0, s0)]) (Lr := fun (x : Int32 × RS) => [(11, b0, f0, x.2)]) (L2 := fun (x : Int32 × RS) => [(11, b0, f0, x.2), (7, (b0 + 8), f1, s1), (0, b2, f2, s2)]) cv_X11_113 (by decide) (pc := 45) dX11_with_45 ho rfl xc0_11 rfl rfl (Nat.le_of_ble_eq_true rfl) (xovs (L := [(11, b0, f0, s0), (7, (b0 + 8), f1, s1), (0, b2, f2, s2)]) (h := h) [(0, (11, b0, f0, s0))] ho ⟨rfl, trivial⟩).1 (fun x => (xovs (L := [(11, b0, f0, s0), (7, (b0 + 8), f1, s1), (0, b2, f2, s2)]) (h := h) [(0, (11, b0, f0, x.2))] ho ⟨rfl, trivial⟩).1) (fun x hx => pX11_refuse_ok (h := xw [(11, b0, f0, s0), (7, (b0 + 8), f1, s1), (0, b2, f2, s2)] h) (xok_sub ho [0] rfl (by decide)) s0 (8 : Int32) x hx) rfl (fun x7 _ => ?_)
        exact s_iret (pc := 48) dX11_with_48 rfl (fun _ _ q => q)
    · refine s_sub [0] rfl ?_
      exact X11_with_j28_ok ho hq_1_0 s0 s1 s2
  · refine s_sub [0] rfl ?_
    exact X11_with_j28_ok ho hq_1_0 s0 s1 s2
theorem pX11_with_ok (ho : xok [(11, b0), (7, (b0 + 8)), (0, b2)] h.2.1) (hq_1_0 : f1 0 = some b2) (s0 : RS) (s1 : RS) (s2 : RS) (a0 : Int32) (a1 : Int32) : ∀ x, pX11_with s0 s1 s2 a0 a1 = some x → aMet l 2 yX11_with cX11_with 3 (some .int) [.ref b0, .int a0, .int a1] (xw [(11, b0, f0, s0), (7, (b0 + 8), f1, s1), (0, b2, f2, s2)] h) (some (.int x.1)) (xw [(11, b0, f0, x.2), (7, (b0 + 8), f1, s1), (0, b2, f2, s2)] h) := fun x hx => a_meth (ini := false) (y := yX11_with) (by decide +kernel) (fun q => by cases q) (fun _ => Nat.le_of_ble_eq_true rfl) (pX11_with_w ho hq_1_0 s0 s1 s2 a0 a1) x hx _ _ ⟨rfl, rfl⟩
end
section
variable {l : Launch} {n0 S0 : Nat} {h : aH}
abbrev MX11_commonDivisor : aM := (cX11_commonDivisor, RX11, 11, (some .long), false)
def X11_commonDivisor_x9 (l : Launch) (n0 S0 : Nat) (h : aH) : Int64 → Option Value → aH → Prop := fun (x : Int64) r h' => aEv l 0 MX11_commonDivisor n0 S0 45 [(4, .long x)] [] (h) r h'
def X11_commonDivisor_b9 (v4 : Int64) (v6 : Int64) (v8 : Int32) : Option ((Int64 × Int64 × Int32) ⊕ Int64) :=
  if (200 : Int32) ≤ v8 then
    some (.inr v4)
  else
    if v6 = (0 : Int64) then
      some (.inr v4)
    else
      g_nzL v6 (
      thn (v4 - v4 / v6 * v6) fun x1 =>
      thn (v8 + 1) fun x2 =>
      some (.inl (v6, x1, x2)))
theorem X11_commonDivisor_b9_ok (v4 : Int64) (v6 : Int64) (v8 : Int32) : aS l 0 MX11_commonDivisor n0 S0 (a_LΦ (X11_commonDivisor_x9 l n0 S0 h) l 0 MX11_commonDivisor n0 S0 9 (fun (q : Int64 × Int64 × Int32) => [(4, .long q.1), (6, .long q.2.1), (8, .int q.2.2)]) (fun _ => []) (fun (q : Int64 × Int64 × Int32) => h)) 9 [(4, .long v4), (6, .long v6), (8, .int v8)] [] (h) (X11_commonDivisor_b9 v4 v6 v8) := by
  unfold X11_commonDivisor_b9
  refine s_iload (pc := 9) 2 dX11_commonDivisor_9 rfl ?_
  refine s_sipush (v := 200) (pc := 11) dX11_commonDivisor_11 (by decide) ?_
  refine s_icmp_ge (tgt := 45) (pc := 14) dX11_commonDivisor_14 (by decide) (fun _ => ?_) (fun _ => ?_)
  · refine s_sub [0] rfl ?_
    exact s_ev (fun _ _ q => q)
  · refine s_lload (pc := 17) 1 dX11_commonDivisor_17 rfl ?_
    refine s_lconst (v := 0) (pc := 19) dX11_commonDivisor_19 (by decide) ?_
    refine s_lcmp (pc := 20) dX11_commonDivisor_20 ?_
    refine s_ifL (lg_cmp_z _ _) (s_if_eq (tgt := 45) (pc := 21) dX11_commonDivisor_21 (by decide) (fun _ => ?_) (fun _ => ?_))
    · refine s_sub [0] rfl ?_
      exact s_ev (fun _ _ q => q)
    · refine s_lload (pc := 24) 0 dX11_commonDivisor_24 rfl ?_
      refine s_lload (pc := 26) 1 dX11_commonDivisor_26 rfl ?_
      refine s_lrem (pc := 28) dX11_commonDivisor_28 ?_
      refine s_lstoreT (lv' := fun x1 => [(9, .long x1), (4, .long v4), (6, .long v6), (8, .int v8)]) (pc := 29) dX11_commonDivisor_29 (by decide) (fun _ => rfl) (fun x1 => ?_)
      refine s_lload (pc := 31) 2 dX11_commonDivisor_31 rfl ?_
      refine s_lstore (lv' := [(4, .long v6), (9, .long x1), (6, .long v6), (8, .int v8)]) (pc := 33) dX11_commonDivisor_33 (by decide) rfl ?_
      refine s_lload (pc := 35) 1 dX11_commonDivisor_35 rfl ?_
      refine s_lstore (lv' := [(6, .long x1), (4, .long v6), (9, .long x1), (8, .int v8)]) (pc := 37) dX11_commonDivisor_37 (by decide) rfl ?_
      refine s_iincT (pc := 39) 3 (lv' := fun x2 => [(8, .int x2), (6, .long x1), (4, .long v6), (9, .long x1)]) dX11_commonDivisor_39 rfl rfl (by decide) (fun _ => rfl) (fun x2 => ?_)
      refine s_goto (tgt := 9) (pc := 42) dX11_commonDivisor_42 (by decide) ?_
      refine s_sub [2, 1, 0] rfl ?_
      exact s_ev (fun _ _ q => q)
def pX11_commonDivisor (a0 : Int64) (a1 : Int64) : Option Int64 :=
  (a_loop (fun (q : Int64 × Int64 × Int32) => X11_commonDivisor_b9 q.1 q.2.1 q.2.2) FU (a0, a1, (0 : Int32))).bind fun (t3 : Int64) =>
    some t3
theorem pX11_commonDivisor_w (a0 : Int64) (a1 : Int64) : aS l 0 MX11_commonDivisor n0 S0 (oΦ (fun (x : Int64) => ((some (.long x)), h))) 0 [(0, .long a0), (2, .long a1)] [] (h) (pX11_commonDivisor a0 a1) := by
  unfold pX11_commonDivisor
  refine s_lload_n (pc := 0) 0 dX11_commonDivisor_0 rfl ?_
  refine s_lstore (lv' := [(4, .long a0), (0, .long a0), (2, .long a1)]) (pc := 1) dX11_commonDivisor_1 (by decide) rfl ?_
  refine s_lload_n (pc := 3) 2 dX11_commonDivisor_3 rfl ?_
  refine s_lstore (lv' := [(6, .long a1), (4, .long a0), (0, .long a0), (2, .long a1)]) (pc := 4) dX11_commonDivisor_4 (by decide) rfl ?_
  refine s_iconst (v := 0) (pc := 6) dX11_commonDivisor_6 (by decide) ?_
  refine s_istore (lv' := [(8, .int 0), (6, .long a1), (4, .long a0), (0, .long a0), (2, .long a1)]) (pc := 7) dX11_commonDivisor_7 (by decide) rfl ?_
  refine s_bind (Ψ := X11_commonDivisor_x9 l n0 S0 h) ?_ ?_
  · refine s_sub [2, 1, 0] rfl ?_
    exact s_loop (lvf := fun (q : Int64 × Int64 × Int32) => [(4, .long q.1), (6, .long q.2.1), (8, .int q.2.2)]) (stf := fun _ => []) (hf := fun (q : Int64 × Int64 × Int32) => h) (fun q => X11_commonDivisor_b9_ok q.1 q.2.1 q.2.2) FU (a0, a1, (0 : Int32))
  · intro t3 z r h' hz hr
    refine (?_ : aS l 0 MX11_commonDivisor n0 S0 (oΦ (fun (x : Int64) => ((some (.long x)), h))) 45 [(4, .long t3)] [] (h) _) z hz r h' hr
    refine s_lload (pc := 45) 0 dX11_commonDivisor_45 rfl ?_
    exact s_lret (pc := 47) dX11_commonDivisor_47 rfl (fun _ _ q => q)
theorem pX11_commonDivisor_ok (a0 : Int64) (a1 : Int64) : ∀ x, pX11_commonDivisor a0 a1 = some x → aMet l 0 yX11_commonDivisor cX11_commonDivisor 11 (some .long) [.long a0, .long a1] (h) (some (.long x)) (h) := fun x hx => a_meth (ini := false) (y := yX11_commonDivisor) (by decide +kernel) (fun q => by cases q) (fun _ => Nat.le_of_ble_eq_true rfl) (pX11_commonDivisor_w a0 a1) x hx _ _ ⟨rfl, rfl⟩
end
section
variable {l : Launch} {n0 S0 : Nat} {h : aH} {b0 : Nat} {f0 : Nat → Option Nat}
abbrev MX11_tellFraction : aM := (cX11_tellFraction, RX11, 7, none, false)
def pX11_tellFraction (s0 : RS) (a0 : Int64) (a1 : Int64) : Option RS :=
  (pX11_commonDivisor a0 a1).bind fun x1 =>
  if x1 ≤ (0 : Int64) then
    some s0
  else
    g_nzL x1 (
    thn (uL s0 12 (a0 / x1)) fun s_2 =>
    g_nzL x1 (
    thn (uL s_2 13 (a1 / x1)) fun s_3 =>
    some s_3))
theorem pX11_tellFraction_w (ho : xok [(11, b0)] h.2.1) (s0 : RS) (a0 : Int64) (a1 : Int64) : aS l 1 MX11_tellFraction n0 S0 (oΦ (fun (x : RS) => (none, xw [(11, b0, f0, x)] h))) 0 [(0, .ref b0), (1, .long a0), (3, .long a1)] [] (xw [(11, b0, f0, s0)] h) (pX11_tellFraction s0 a0 a1) := by
  unfold pX11_tellFraction
  refine s_lload_n (pc := 0) 1 dX11_tellFraction_0 rfl ?_
  refine s_lload_n (pc := 1) 2 dX11_tellFraction_1 rfl ?_
  refine s_callS (M := MX11_tellFraction) (As := [.long a0, .long a1]) (st := []) (Ψ := fun (x : Int64) => (some (.long x), xw [(11, b0, f0, s0)] h)) cs_X11_333 (by decide) (pc := 2) dX11_tellFraction_2 rfl (Nat.le_of_ble_eq_true rfl) (fun x hx => pX11_commonDivisor_ok a0 a1 x hx) rfl (fun x1 _ => ?_)
  refine s_lstore (lv' := [(5, .long x1), (0, .ref b0), (1, .long a0), (3, .long a1)]) (pc := 5) dX11_tellFraction_5 (by decide) rfl ?_
  refine s_lload (pc := 7) 0 dX11_tellFraction_7 rfl ?_
  refine s_lconst (v := 0) (pc := 9) dX11_tellFraction_9 (by decide) ?_
  refine s_lcmp (pc := 10) dX11_tellFraction_10 ?_
  refine s_ifL (lg_cmp_le _ _) (s_if_le (tgt := 30) (pc := 11) dX11_tellFraction_11 (by decide) (fun _ => ?_) (fun _ => ?_))
  · exact s_vret (pc := 30) dX11_tellFraction_30 rfl (fun _ _ q => q)
  · refine s_aload_n (pc := 14) 1 dX11_tellFraction_14 rfl ?_
    refine s_lload_n (pc := 15) 2 dX11_tellFraction_15 rfl ?_
    refine s_lload (pc := 16) 0 dX11_tellFraction_16 rfl ?_
    refine s_ldiv (pc := 18) dX11_tellFraction_18 ?_
    refine xp_X11_72 (L' := fun s_2 => [(11, b0, f0, s_2)]) 0 ho rfl (fun _ => rfl) (pc := 19) dX11_tellFraction_19 rfl (fun s_2 => ?_)
    refine s_aload_n (pc := 22) 1 dX11_tellFraction_22 rfl ?_
    refine s_lload_n (pc := 23) 3 dX11_tellFraction_23 rfl ?_
    refine s_lload (pc := 24) 0 dX11_tellFraction_24 rfl ?_
    refine s_ldiv (pc := 26) dX11_tellFraction_26 ?_
    refine xp_X11_76 (L' := fun s_3 => [(11, b0, f0, s_3)]) 0 ho rfl (fun _ => rfl) (pc := 27) dX11_tellFraction_27 rfl (fun s_3 => ?_)
    exact s_vret (pc := 30) dX11_tellFraction_30 rfl (fun _ _ q => q)
theorem pX11_tellFraction_ok (ho : xok [(11, b0)] h.2.1) (s0 : RS) (a0 : Int64) (a1 : Int64) : ∀ x, pX11_tellFraction s0 a0 a1 = some x → aMet l 1 yX11_tellFraction cX11_tellFraction 7 none [.ref b0, .long a0, .long a1] (xw [(11, b0, f0, s0)] h) none (xw [(11, b0, f0, x)] h) := fun x hx => a_meth (ini := false) (y := yX11_tellFraction) (by decide +kernel) (fun q => by cases q) (fun _ => Nat.le_of_ble_eq_true rfl) (pX11_tellFraction_w ho s0 a0 a1) x hx _ _ ⟨rfl, rfl⟩
end
