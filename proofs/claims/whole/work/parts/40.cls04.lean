section
variable {l : Launch} {n0 S0 : Nat} {h : aH} {b0 b1 b2 b3 : Nat} {f0 f1 f2 f3 : Nat → Option Nat}
abbrev MX4_readDelay : aM := (cX4_readDelay, RX4, 2, (some .boolean), false)
def X4_readDelay_j32 (v1 : Int32) (s0 : RS) (s1 : RS) (s2 : RS) (s3 : RS) : Option (Bool × RS × RS) :=
  (pX8_kindHere s1).bind fun x2 =>
  if x2 = (16 : Int32) then
    g_in v1 60 (thn (uA s3 6 (upd (s3.2.2.1 6) v1.toNatClampNeg (1 : Int32))) fun s_3 =>
    (pX8_advance s1).bind fun x4 =>
    some (true, x4, s_3))
  else
    some (true, s1, s3)
theorem X4_readDelay_j32_ok (ho : xok [(4, b0), (8, b1), (0, b2), (3, b3)] h.2.1) (hq_0_0 : f0 0 = some b1) (hq_0_1 : f0 1 = some b2) (hq_0_2 : f0 2 = some b3) (v1 : Int32) (s0 : RS) (s1 : RS) (s2 : RS) (s3 : RS) : aS l 3 MX4_readDelay n0 S0 (oΦ (fun (x : Bool × RS × RS) => ((some (.int (b2i x.1))), xw [(4, b0, f0, s0), (8, b1, f1, x.2.1), (0, b2, f2, s2), (3, b3, f3, x.2.2)] h))) 32 [(0, .ref b0), (1, .int v1)] [] (xw [(4, b0, f0, s0), (8, b1, f1, s1), (0, b2, f2, s2), (3, b3, f3, s3)] h) (X4_readDelay_j32 v1 s0 s1 s2 s3) := by
  unfold X4_readDelay_j32
  refine s_aload_n (pc := 32) 0 dX4_readDelay_32 rfl ?_
  refine xg_X4_26 0 ho rfl (pc := 33) dX4_readDelay_33 rfl hq_0_0 ?_
  refine x_callV (M := MX4_readDelay) (L := [(4, b0, f0, s0), (8, b1, f1, s1), (0, b2, f2, s2), (3, b3, f3, s3)]) (h := h) (j := 1) (As := []) (st := []) (A := fun (x : Int32) => some (.int x)) (Lc := [(8, b1, f1, s1)]) (Lr := fun (x : Int32) => [(8, b1, f1, s1)]) (L2 := fun (x : Int32) => [(4, b0, f0, s0), (8, b1, f1, s1), (0, b2, f2, s2), (3, b3, f3, s3)]) cv_X4_47 (by decide) (pc := 36) dX4_readDelay_36 ho rfl xc0_8 rfl rfl (Nat.le_of_ble_eq_true rfl) (xovs (L := [(4, b0, f0, s0), (8, b1, f1, s1), (0, b2, f2, s2), (3, b3, f3, s3)]) (h := h) [(1, (8, b1, f1, s1))] ho ⟨rfl, trivial⟩).1 (fun x => (xovs (L := [(4, b0, f0, s0), (8, b1, f1, s1), (0, b2, f2, s2), (3, b3, f3, s3)]) (h := h) [(1, (8, b1, f1, s1))] ho ⟨rfl, trivial⟩).1) (fun x hx => pX8_kindHere_ok (h := xw [(4, b0, f0, s0), (8, b1, f1, s1), (0, b2, f2, s2), (3, b3, f3, s3)] h) (f0 := f1) (xok_sub ho [1] rfl (by decide)) s1 x hx) rfl (fun x2 _ => ?_)
  refine s_bipush (v := 16) (pc := 39) dX4_readDelay_39 (by decide) ?_
  refine s_icmp_ne (tgt := 61) (pc := 41) dX4_readDelay_41 (by decide) (fun _ => ?_) (fun _ => ?_)
  · refine s_aload_n (pc := 44) 0 dX4_readDelay_44 rfl ?_
    refine xg_X4_12 0 ho rfl (pc := 45) dX4_readDelay_45 rfl hq_0_2 ?_
    refine xg_X4_105 3 ho rfl (pc := 48) dX4_readDelay_48 rfl ?_
    refine s_iload_n (pc := 51) 1 dX4_readDelay_51 rfl ?_
    refine s_iconst (v := 1) (pc := 52) dX4_readDelay_52 (by decide) ?_
    refine xs_3_6 (L' := fun s_3 => [(4, b0, f0, s0), (8, b1, f1, s1), (0, b2, f2, s2), (3, b3, f3, s_3)]) 3 (by decide) ho rfl (fun _ => rfl) (pc := 53) dX4_readDelay_53 (fun s_3 => ?_)
    refine s_aload_n (pc := 54) 0 dX4_readDelay_54 rfl ?_
    refine xg_X4_26 0 ho rfl (pc := 55) dX4_readDelay_55 rfl hq_0_0 ?_
    refine x_callV (M := MX4_readDelay) (L := [(4, b0, f0, s0), (8, b1, f1, s1), (0, b2, f2, s2), (3, b3, f3, s_3)]) (h := h) (j := 1) (As := []) (st := []) (A := fun (x : RS) => none) (Lc := [(8, b1, f1, s1)]) (Lr := fun (x : RS) => [(8, b1, f1, x)]) (L2 := fun (x : RS) => [(4, b0, f0, s0), (8, b1, f1, x), (0, b2, f2, s2), (3, b3, f3, s_3)]) cv_X4_74 (by decide) (pc := 58) dX4_readDelay_58 ho rfl xc0_8 rfl rfl (Nat.le_of_ble_eq_true rfl) (xovs (L := [(4, b0, f0, s0), (8, b1, f1, s1), (0, b2, f2, s2), (3, b3, f3, s_3)]) (h := h) [(1, (8, b1, f1, s1))] ho ⟨rfl, trivial⟩).1 (fun x => (xovs (L := [(4, b0, f0, s0), (8, b1, f1, s1), (0, b2, f2, s2), (3, b3, f3, s_3)]) (h := h) [(1, (8, b1, f1, x))] ho ⟨rfl, trivial⟩).1) (fun x hx => pX8_advance_ok (h := xw [(4, b0, f0, s0), (8, b1, f1, s1), (0, b2, f2, s2), (3, b3, f3, s_3)] h) (f0 := f1) (xok_sub ho [1] rfl (by decide)) s1 x hx) rfl (fun x4 _ => ?_)
    refine s_iconst (v := 1) (pc := 61) dX4_readDelay_61 (by decide) ?_
    exact s_zretB (b := true) (pc := 62) dX4_readDelay_62 rfl (fun _ _ q => q)
  · refine s_iconst (v := 1) (pc := 61) dX4_readDelay_61 (by decide) ?_
    exact s_zretB (b := true) (pc := 62) dX4_readDelay_62 rfl (fun _ _ q => q)
def pX4_readDelay (s0 : RS) (s1 : RS) (s2 : RS) (s3 : RS) (a0 : Int32) : Option (Bool × RS × RS) :=
  (pX8_kindHere s1).bind fun x1 =>
  if x1 = (15 : Int32) then
    (pX8_advance s1).bind fun x5 =>
    (pX4_readNumber s0 x5 s2 s3 a0 (0 : Int32) (9 : Int32)).bind fun x6 =>
    if x6.1 = true then
      X4_readDelay_j32 a0 s0 x6.2.1 s2 x6.2.2
    else
      some (false, x6.2.1, x6.2.2)
  else
    X4_readDelay_j32 a0 s0 s1 s2 s3
theorem pX4_readDelay_w (ho : xok [(4, b0), (8, b1), (0, b2), (3, b3)] h.2.1) (hq_0_0 : f0 0 = some b1) (hq_0_1 : f0 1 = some b2) (hq_0_2 : f0 2 = some b3) (s0 : RS) (s1 : RS) (s2 : RS) (s3 : RS) (a0 : Int32) : aS l 3 MX4_readDelay n0 S0 (oΦ (fun (x : Bool × RS × RS) => ((some (.int (b2i x.1))), xw [(4, b0, f0, s0), (8, b1, f1, x.2.1), (0, b2, f2, s2), (3, b3, f3, x.2.2)] h))) 0 [(0, .ref b0), (1, .int a0)] [] (xw [(4, b0, f0, s0), (8, b1, f1, s1), (0, b2, f2, s2), (3, b3, f3, s3)] h) (pX4_readDelay s0 s1 s2 s3 a0) := by
  unfold pX4_readDelay
  refine s_aload_n (pc := 0) 0 dX4_readDelay_0 rfl ?_
  refine xg_X4_26 0 ho rfl (pc := 1) dX4_readDelay_1 rfl hq_0_0 ?_
  refine x_callV (M := MX4_readDelay) (L := [(4, b0, f0, s0), (8, b1, f1, s1), (0, b2, f2, s2), (3, b3, f3, s3)]) (h := h) (j := 1) (As := []) (st := []) (A := fun (x : Int32) => some (.int x)) (Lc := [(8, b1, f1, s1)]) (Lr := fun (x : Int32) => [(8, b1, f1, s1)]) (L2 := fun (x : Int32) => [(4, b0, f0, s0), (8, b1, f1, s1), (0, b2, f2, s2), (3, b3, f3, s3)]) cv_X4_47 (by decide) (pc := 4) dX4_readDelay_4 ho rfl xc0_8 rfl rfl (Nat.le_of_ble_eq_true rfl) (xovs (L := [(4, b0, f0, s0), (8, b1, f1, s1), (0, b2, f2, s2), (3, b3, f3, s3)]) (h := h) [(1, (8, b1, f1, s1))] ho ⟨rfl, trivial⟩).1 (fun x => (xovs (L := [(4, b0, f0, s0), (8, b1, f1, s1), (0, b2, f2, s2), (3, b3, f3, s3)]) (h := h) [(1, (8, b1, f1, s1))] ho ⟨rfl, trivial⟩).1) (fun x hx => pX8_kindHere_ok (h := xw [(4, b0, f0, s0), (8, b1, f1, s1), (0, b2, f2, s2), (3, b3, f3, s3)] h) (f0 := f1) (xok_sub ho [1] rfl (by decide)) s1 x hx) rfl (fun x1 _ => ?_)
  refine s_bipush (v := 15) (pc := 7) dX4_readDelay_7 (by decide) ?_
  refine s_icmp_ne (tgt := 32) (pc := 9) dX4_readDelay_9 (by decide) (fun _ => ?_) (fun _ => ?_)
  · refine s_aload_n (pc := 12) 0 dX4_readDelay_12 rfl ?_
    refine xg_X4_26 0 ho rfl (pc := 13) dX4_readDelay_13 rfl hq_0_0 ?_
    refine x_callV (M := MX4_readDelay) (L := [(4, b0, f0, s0), (8, b1, f1, s1), (0, b2, f2, s2), (3, b3, f3, s3)]) (h := h) (j := 1) (As := []) (st := []) (A := fun (x : RS) => none) (Lc := [(8, b1, f1, s1)]) (Lr := fun (x : RS) => [(8, b1, f1, x)]) (L2 := fun (x : RS) => [(4, b0, f0, s0), (8, b1, f1, x), (0, b2, f2, s2), (3, b3, f3, s3)]) cv_X4_74 (by decide) (pc := 16) dX4_readDelay_16 ho rfl xc0_8 rfl rfl (Nat.le_of_ble_eq_true rfl) (xovs (L := [(4, b0, f0, s0), (8, b1, f1, s1), (0, b2, f2, s2), (3, b3, f3, s3)]) (h := h) [(1, (8, b1, f1, s1))] ho ⟨rfl, trivial⟩).1 (fun x => (xovs (L := [(4, b0, f0, s0), (8, b1, f1, s1), (0, b2, f2, s2), (3, b3, f3, s3)]) (h := h) [(1, (8, b1, f1, x))] ho ⟨rfl, trivial⟩).1) (fun x hx => pX8_advance_ok (h := xw [(4, b0, f0, s0), (8, b1, f1, s1), (0, b2, f2, s2), (3, b3, f3, s3)] h) (f0 := f1) (xok_sub ho [1] rfl (by decide)) s1 x hx) rfl (fun x5 _ => ?_)
    refine s_aload_n (pc := 19) 0 dX4_readDelay_19 rfl ?_
    refine s_iload_n (pc := 20) 1 dX4_readDelay_20 rfl ?_
    refine s_iconst (v := 0) (pc := 21) dX4_readDelay_21 (by decide) ?_
    refine s_bipush (v := 9) (pc := 22) dX4_readDelay_22 (by decide) ?_
    refine x_callV (M := MX4_readDelay) (L := [(4, b0, f0, s0), (8, b1, f1, x5), (0, b2, f2, s2), (3, b3, f3, s3)]) (h := h) (j := 0) (As := [.int a0, .int 0, .int 9]) (st := []) (A := fun (x : Bool × RS × RS) => some (.int (b2i x.1))) (Lc := [(4, b0, f0, s0), (8, b1, f1, x5), (0, b2, f2, s2), (3, b3, f3, s3)]) (Lr := fun (x : Bool × RS × RS) => [(4, b0, f0, s0), (8, b1, f1, x.2.1), (0, b2, f2, s2), (3, b3, f3, x.2.2)]) (L2 := fun (x : Bool × RS × RS) => [(4, b0, f0, s0), (8, b1, f1, x.2.1), (0, b2, f2, s2), (3, b3, f3, x.2.2)]) cv_X4_98 (by decide) (pc := 24) dX4_readDelay_24 ho rfl xc0_4 rfl rfl (Nat.le_of_ble_eq_true rfl) (xovs (L := [(4, b0, f0, s0), (8, b1, f1, x5), (0, b2, f2, s2), (3, b3, f3, s3)]) (h := h) [(0, (4, b0, f0, s0)), (1, (8, b1, f1, x5)), (2, (0, b2, f2, s2)), (3, (3, b3, f3, s3))] ho ⟨rfl, rfl, rfl, rfl, trivial⟩).1 (fun x => (xovs (L := [(4, b0, f0, s0), (8, b1, f1, x5), (0, b2, f2, s2), (3, b3, f3, s3)]) (h := h) [(0, (4, b0, f0, s0)), (1, (8, b1, f1, x.2.1)), (2, (0, b2, f2, s2)), (3, (3, b3, f3, x.2.2))] ho ⟨rfl, rfl, rfl, rfl, trivial⟩).1) (fun x hx => pX4_readNumber_ok (h := xw [(4, b0, f0, s0), (8, b1, f1, x5), (0, b2, f2, s2), (3, b3, f3, s3)] h) (f0 := f0) (f1 := f1) (f2 := f2) (f3 := f3) (xok_sub ho [0, 1, 2, 3] rfl (by decide)) hq_0_0 hq_0_1 hq_0_2 s0 x5 s2 s3 a0 (0 : Int32) (9 : Int32) x hx) rfl (fun x6 _ => ?_)
    refine s_if_neB (tgt := 32) (pc := 27) dX4_readDelay_27 (by decide) (fun _ => ?_) (fun _ => ?_)
    · exact X4_readDelay_j32_ok ho hq_0_0 hq_0_1 hq_0_2 a0 s0 x6.2.1 s2 x6.2.2
    · refine s_iconst (v := 0) (pc := 30) dX4_readDelay_30 (by decide) ?_
      exact s_zretB (b := false) (pc := 31) dX4_readDelay_31 rfl (fun _ _ q => q)
  · exact X4_readDelay_j32_ok ho hq_0_0 hq_0_1 hq_0_2 a0 s0 s1 s2 s3
theorem pX4_readDelay_ok (ho : xok [(4, b0), (8, b1), (0, b2), (3, b3)] h.2.1) (hq_0_0 : f0 0 = some b1) (hq_0_1 : f0 1 = some b2) (hq_0_2 : f0 2 = some b3) (s0 : RS) (s1 : RS) (s2 : RS) (s3 : RS) (a0 : Int32) : ∀ x, pX4_readDelay s0 s1 s2 s3 a0 = some x → aMet l 3 yX4_readDelay cX4_readDelay 2 (some .boolean) [.ref b0, .int a0] (xw [(4, b0, f0, s0), (8, b1, f1, s1), (0, b2, f2, s2), (3, b3, f3, s3)] h) (some (.int (b2i x.1))) (xw [(4, b0, f0, s0), (8, b1, f1, x.2.1), (0, b2, f2, s2), (3, b3, f3, x.2.2)] h) := fun x hx => a_meth (ini := false) (y := yX4_readDelay) (by decide +kernel) (fun q => by cases q) (fun _ => Nat.le_of_ble_eq_true rfl) (pX4_readDelay_w ho hq_0_0 hq_0_1 hq_0_2 s0 s1 s2 s3 a0) x hx _ _ ⟨rfl, rfl⟩
end
section
variable {l : Launch} {n0 S0 : Nat} {h : aH} {b0 b1 b2 b3 : Nat} {f0 f1 f2 f3 : Nat → Option Nat}
abbrev MX4_readIsland : aM := (cX4_readIsland, RX4, 2, (some .boolean), false)
def pX4_readIsland (s0 : RS) (s1 : RS) (s2 : RS) (s3 : RS) (a0 : Int32) : Option (Bool × RS × RS) :=
  (pX8_islandHere s1 s2).bind fun x1 =>
  g_in a0 60 (thn (uA s3 3 (upd (s3.2.2.1 3) a0.toNatClampNeg x1.1)) fun s_2 =>
  g_in a0 60 (
  (pX4_advanceBehind s0 x1.2 s2 s_2 (s_2.2.2.1 3 a0.toNatClampNeg)).bind fun x3 =>
  some (x3.1, x3.2, s_2)))
theorem pX4_readIsland_w (ho : xok [(4, b0), (8, b1), (0, b2), (3, b3)] h.2.1) (hq_0_0 : f0 0 = some b1) (hq_0_1 : f0 1 = some b2) (hq_0_2 : f0 2 = some b3) (s0 : RS) (s1 : RS) (s2 : RS) (s3 : RS) (a0 : Int32) : aS l 2 MX4_readIsland n0 S0 (oΦ (fun (x : Bool × RS × RS) => ((some (.int (b2i x.1))), xw [(4, b0, f0, s0), (8, b1, f1, x.2.1), (0, b2, f2, s2), (3, b3, f3, x.2.2)] h))) 0 [(0, .ref b0), (1, .int a0)] [] (xw [(4, b0, f0, s0), (8, b1, f1, s1), (0, b2, f2, s2), (3, b3, f3, s3)] h) (pX4_readIsland s0 s1 s2 s3 a0) := by
  unfold pX4_readIsland
  refine s_aload_n (pc := 0) 0 dX4_readIsland_0 rfl ?_
  refine xg_X4_12 0 ho rfl (pc := 1) dX4_readIsland_1 rfl hq_0_2 ?_
  refine xg_X4_122 3 ho rfl (pc := 4) dX4_readIsland_4 rfl ?_
  refine s_iload_n (pc := 7) 1 dX4_readIsland_7 rfl ?_
  refine s_aload_n (pc := 8) 0 dX4_readIsland_8 rfl ?_
  refine xg_X4_26 0 ho rfl (pc := 9) dX4_readIsland_9 rfl hq_0_0 ?_
  refine s_aload_n (pc := 12) 0 dX4_readIsland_12 rfl ?_
  refine xg_X4_30 0 ho rfl (pc := 13) dX4_readIsland_13 rfl hq_0_1 ?_
  refine x_callV (M := MX4_readIsland) (L := [(4, b0, f0, s0), (8, b1, f1, s1), (0, b2, f2, s2), (3, b3, f3, s3)]) (h := h) (j := 1) (As := [.ref b2]) (st := [.int a0, .ref (b3 + 2)]) (A := fun (x : Int32 × RS) => some (.int x.1)) (Lc := [(8, b1, f1, s1), (0, b2, f2, s2)]) (Lr := fun (x : Int32 × RS) => [(8, b1, f1, x.2), (0, b2, f2, s2)]) (L2 := fun (x : Int32 × RS) => [(4, b0, f0, s0), (8, b1, f1, x.2), (0, b2, f2, s2), (3, b3, f3, s3)]) cv_X4_119 (by decide) (pc := 16) dX4_readIsland_16 ho rfl xc0_8 rfl rfl (Nat.le_of_ble_eq_true rfl) (xovs (L := [(4, b0, f0, s0), (8, b1, f1, s1), (0, b2, f2, s2), (3, b3, f3, s3)]) (h := h) [(1, (8, b1, f1, s1)), (2, (0, b2, f2, s2))] ho ⟨rfl, rfl, trivial⟩).1 (fun x => (xovs (L := [(4, b0, f0, s0), (8, b1, f1, s1), (0, b2, f2, s2), (3, b3, f3, s3)]) (h := h) [(1, (8, b1, f1, x.2)), (2, (0, b2, f2, s2))] ho ⟨rfl, rfl, trivial⟩).1) (fun x hx => pX8_islandHere_ok (h := xw [(4, b0, f0, s0), (8, b1, f1, s1), (0, b2, f2, s2), (3, b3, f3, s3)] h) (f0 := f1) (f1 := f2) (xok_sub ho [1, 2] rfl (by decide)) s1 s2 x hx) rfl (fun x1 _ => ?_)
  refine xs_3_3 (L' := fun s_2 => [(4, b0, f0, s0), (8, b1, f1, x1.2), (0, b2, f2, s2), (3, b3, f3, s_2)]) 3 ho rfl (fun _ => rfl) (pc := 19) dX4_readIsland_19 (fun s_2 => ?_)
  refine s_aload_n (pc := 20) 0 dX4_readIsland_20 rfl ?_
  refine s_aload_n (pc := 21) 0 dX4_readIsland_21 rfl ?_
  refine xg_X4_12 0 ho rfl (pc := 22) dX4_readIsland_22 rfl hq_0_2 ?_
  refine xg_X4_122 3 ho rfl (pc := 25) dX4_readIsland_25 rfl ?_
  refine s_iload_n (pc := 28) 1 dX4_readIsland_28 rfl ?_
  refine xl_3_3 3 ho rfl (pc := 29) dX4_readIsland_29 ?_
  refine x_callV (M := MX4_readIsland) (L := [(4, b0, f0, s0), (8, b1, f1, x1.2), (0, b2, f2, s2), (3, b3, f3, s_2)]) (h := h) (j := 0) (As := [.int (s_2.2.2.1 3 a0.toNatClampNeg)]) (st := []) (A := fun (x : Bool × RS) => some (.int (b2i x.1))) (Lc := [(4, b0, f0, s0), (8, b1, f1, x1.2), (0, b2, f2, s2), (3, b3, f3, s_2)]) (Lr := fun (x : Bool × RS) => [(4, b0, f0, s0), (8, b1, f1, x.2), (0, b2, f2, s2), (3, b3, f3, s_2)]) (L2 := fun (x : Bool × RS) => [(4, b0, f0, s0), (8, b1, f1, x.2), (0, b2, f2, s2), (3, b3, f3, s_2)]) cv_X4_116 (by decide) (pc := 30) dX4_readIsland_30 ho rfl xc0_4 rfl rfl (Nat.le_of_ble_eq_true rfl) (xovs (L := [(4, b0, f0, s0), (8, b1, f1, x1.2), (0, b2, f2, s2), (3, b3, f3, s_2)]) (h := h) [(0, (4, b0, f0, s0)), (1, (8, b1, f1, x1.2)), (2, (0, b2, f2, s2)), (3, (3, b3, f3, s_2))] ho ⟨rfl, rfl, rfl, rfl, trivial⟩).1 (fun x => (xovs (L := [(4, b0, f0, s0), (8, b1, f1, x1.2), (0, b2, f2, s2), (3, b3, f3, s_2)]) (h := h) [(0, (4, b0, f0, s0)), (1, (8, b1, f1, x.2)), (2, (0, b2, f2, s2)), (3, (3, b3, f3, s_2))] ho ⟨rfl, rfl, rfl, rfl, trivial⟩).1) (fun x hx => pX4_advanceBehind_ok (h := xw [(4, b0, f0, s0), (8, b1, f1, x1.2), (0, b2, f2, s2), (3, b3, f3, s_2)] h) (f0 := f0) (f1 := f1) (f2 := f2) (f3 := f3) (xok_sub ho [0, 1, 2, 3] rfl (by decide)) hq_0_0 hq_0_1 hq_0_2 s0 x1.2 s2 s_2 (s_2.2.2.1 3 a0.toNatClampNeg) x hx) rfl (fun x3 _ => ?_)
  exact s_zretB (b := x3.1) (pc := 33) dX4_readIsland_33 rfl (fun _ _ q => q)
theorem pX4_readIsland_ok (ho : xok [(4, b0), (8, b1), (0, b2), (3, b3)] h.2.1) (hq_0_0 : f0 0 = some b1) (hq_0_1 : f0 1 = some b2) (hq_0_2 : f0 2 = some b3) (s0 : RS) (s1 : RS) (s2 : RS) (s3 : RS) (a0 : Int32) : ∀ x, pX4_readIsland s0 s1 s2 s3 a0 = some x → aMet l 2 yX4_readIsland cX4_readIsland 2 (some .boolean) [.ref b0, .int a0] (xw [(4, b0, f0, s0), (8, b1, f1, s1), (0, b2, f2, s2), (3, b3, f3, s3)] h) (some (.int (b2i x.1))) (xw [(4, b0, f0, s0), (8, b1, f1, x.2.1), (0, b2, f2, s2), (3, b3, f3, x.2.2)] h) := fun x hx => a_meth (ini := false) (y := yX4_readIsland) (by decide +kernel) (fun q => by cases q) (fun _ => Nat.le_of_ble_eq_true rfl) (pX4_readIsland_w ho hq_0_0 hq_0_1 hq_0_2 s0 s1 s2 s3 a0) x hx _ _ ⟨rfl, rfl⟩
end
section
variable {l : Launch} {n0 S0 : Nat} {h : aH} {b0 b1 b2 b3 : Nat} {f0 f1 f2 f3 : Nat → Option Nat}
abbrev MX4_readTarget : aM := (cX4_readTarget, RX4, 2, (some .boolean), false)
def pX4_readTarget (s0 : RS) (s1 : RS) (s2 : RS) (s3 : RS) (a0 : Int32) : Option (Bool × RS × RS) :=
  (pX8_islandHere s1 s2).bind fun x1 =>
  g_in a0 60 (thn (uA s3 4 (upd (s3.2.2.1 4) a0.toNatClampNeg x1.1)) fun s_2 =>
  g_in a0 60 (
  (pX4_advanceBehind s0 x1.2 s2 s_2 (s_2.2.2.1 4 a0.toNatClampNeg)).bind fun x3 =>
  some (x3.1, x3.2, s_2)))
theorem pX4_readTarget_w (ho : xok [(4, b0), (8, b1), (0, b2), (3, b3)] h.2.1) (hq_0_0 : f0 0 = some b1) (hq_0_1 : f0 1 = some b2) (hq_0_2 : f0 2 = some b3) (s0 : RS) (s1 : RS) (s2 : RS) (s3 : RS) (a0 : Int32) : aS l 2 MX4_readTarget n0 S0 (oΦ (fun (x : Bool × RS × RS) => ((some (.int (b2i x.1))), xw [(4, b0, f0, s0), (8, b1, f1, x.2.1), (0, b2, f2, s2), (3, b3, f3, x.2.2)] h))) 0 [(0, .ref b0), (1, .int a0)] [] (xw [(4, b0, f0, s0), (8, b1, f1, s1), (0, b2, f2, s2), (3, b3, f3, s3)] h) (pX4_readTarget s0 s1 s2 s3 a0) := by
  unfold pX4_readTarget
  refine s_aload_n (pc := 0) 0 dX4_readTarget_0 rfl ?_
  refine xg_X4_12 0 ho rfl (pc := 1) dX4_readTarget_1 rfl hq_0_2 ?_
  refine xg_X4_109 3 ho rfl (pc := 4) dX4_readTarget_4 rfl ?_
  refine s_iload_n (pc := 7) 1 dX4_readTarget_7 rfl ?_
  refine s_aload_n (pc := 8) 0 dX4_readTarget_8 rfl ?_
  refine xg_X4_26 0 ho rfl (pc := 9) dX4_readTarget_9 rfl hq_0_0 ?_
  refine s_aload_n (pc := 12) 0 dX4_readTarget_12 rfl ?_
  refine xg_X4_30 0 ho rfl (pc := 13) dX4_readTarget_13 rfl hq_0_1 ?_
  refine x_callV (M := MX4_readTarget) (L := [(4, b0, f0, s0), (8, b1, f1, s1), (0, b2, f2, s2), (3, b3, f3, s3)]) (h := h) (j := 1) (As := [.ref b2]) (st := [.int a0, .ref (b3 + 3)]) (A := fun (x : Int32 × RS) => some (.int x.1)) (Lc := [(8, b1, f1, s1), (0, b2, f2, s2)]) (Lr := fun (x : Int32 × RS) => [(8, b1, f1, x.2), (0, b2, f2, s2)]) (L2 := fun (x : Int32 × RS) => [(4, b0, f0, s0), (8, b1, f1, x.2), (0, b2, f2, s2), (3, b3, f3, s3)]) cv_X4_119 (by decide) (pc := 16) dX4_readTarget_16 ho rfl xc0_8 rfl rfl (Nat.le_of_ble_eq_true rfl) (xovs (L := [(4, b0, f0, s0), (8, b1, f1, s1), (0, b2, f2, s2), (3, b3, f3, s3)]) (h := h) [(1, (8, b1, f1, s1)), (2, (0, b2, f2, s2))] ho ⟨rfl, rfl, trivial⟩).1 (fun x => (xovs (L := [(4, b0, f0, s0), (8, b1, f1, s1), (0, b2, f2, s2), (3, b3, f3, s3)]) (h := h) [(1, (8, b1, f1, x.2)), (2, (0, b2, f2, s2))] ho ⟨rfl, rfl, trivial⟩).1) (fun x hx => pX8_islandHere_ok (h := xw [(4, b0, f0, s0), (8, b1, f1, s1), (0, b2, f2, s2), (3, b3, f3, s3)] h) (f0 := f1) (f1 := f2) (xok_sub ho [1, 2] rfl (by decide)) s1 s2 x hx) rfl (fun x1 _ => ?_)
  refine xs_3_4 (L' := fun s_2 => [(4, b0, f0, s0), (8, b1, f1, x1.2), (0, b2, f2, s2), (3, b3, f3, s_2)]) 3 ho rfl (fun _ => rfl) (pc := 19) dX4_readTarget_19 (fun s_2 => ?_)
  refine s_aload_n (pc := 20) 0 dX4_readTarget_20 rfl ?_
  refine s_aload_n (pc := 21) 0 dX4_readTarget_21 rfl ?_
  refine xg_X4_12 0 ho rfl (pc := 22) dX4_readTarget_22 rfl hq_0_2 ?_
  refine xg_X4_109 3 ho rfl (pc := 25) dX4_readTarget_25 rfl ?_
  refine s_iload_n (pc := 28) 1 dX4_readTarget_28 rfl ?_
  refine xl_3_4 3 ho rfl (pc := 29) dX4_readTarget_29 ?_
  refine x_callV (M := MX4_readTarget) (L := [(4, b0, f0, s0), (8, b1, f1, x1.2), (0, b2, f2, s2), (3, b3, f3, s_2)]) (h := h) (j := 0) (As := [.int (s_2.2.2.1 4 a0.toNatClampNeg)]) (st := []) (A := fun (x : Bool × RS) => some (.int (b2i x.1))) (Lc := [(4, b0, f0, s0), (8, b1, f1, x1.2), (0, b2, f2, s2), (3, b3, f3, s_2)]) (Lr := fun (x : Bool × RS) => [(4, b0, f0, s0), (8, b1, f1, x.2), (0, b2, f2, s2), (3, b3, f3, s_2)]) (L2 := fun (x : Bool × RS) => [(4, b0, f0, s0), (8, b1, f1, x.2), (0, b2, f2, s2), (3, b3, f3, s_2)]) cv_X4_116 (by decide) (pc := 30) dX4_readTarget_30 ho rfl xc0_4 rfl rfl (Nat.le_of_ble_eq_true rfl) (xovs (L := [(4, b0, f0, s0), (8, b1, f1, x1.2), (0, b2, f2, s2), (3, b3, f3, s_2)]) (h := h) [(0, (4, b0, f0, s0)), (1, (8, b1, f1, x1.2)), (2, (0, b2, f2, s2)), (3, (3, b3, f3, s_2))] ho ⟨rfl, rfl, rfl, rfl, trivial⟩).1 (fun x => (xovs (L := [(4, b0, f0, s0), (8, b1, f1, x1.2), (0, b2, f2, s2), (3, b3, f3, s_2)]) (h := h) [(0, (4, b0, f0, s0)), (1, (8, b1, f1, x.2)), (2, (0, b2, f2, s2)), (3, (3, b3, f3, s_2))] ho ⟨rfl, rfl, rfl, rfl, trivial⟩).1) (fun x hx => pX4_advanceBehind_ok (h := xw [(4, b0, f0, s0), (8, b1, f1, x1.2), (0, b2, f2, s2), (3, b3, f3, s_2)] h) (f0 := f0) (f1 := f1) (f2 := f2) (f3 := f3) (xok_sub ho [0, 1, 2, 3] rfl (by decide)) hq_0_0 hq_0_1 hq_0_2 s0 x1.2 s2 s_2 (s_2.2.2.1 4 a0.toNatClampNeg) x hx) rfl (fun x3 _ => ?_)
  exact s_zretB (b := x3.1) (pc := 33) dX4_readTarget_33 rfl (fun _ _ q => q)
theorem pX4_readTarget_ok (ho : xok [(4, b0), (8, b1), (0, b2), (3, b3)] h.2.1) (hq_0_0 : f0 0 = some b1) (hq_0_1 : f0 1 = some b2) (hq_0_2 : f0 2 = some b3) (s0 : RS) (s1 : RS) (s2 : RS) (s3 : RS) (a0 : Int32) : ∀ x, pX4_readTarget s0 s1 s2 s3 a0 = some x → aMet l 2 yX4_readTarget cX4_readTarget 2 (some .boolean) [.ref b0, .int a0] (xw [(4, b0, f0, s0), (8, b1, f1, s1), (0, b2, f2, s2), (3, b3, f3, s3)] h) (some (.int (b2i x.1))) (xw [(4, b0, f0, s0), (8, b1, f1, x.2.1), (0, b2, f2, s2), (3, b3, f3, x.2.2)] h) := fun x hx => a_meth (ini := false) (y := yX4_readTarget) (by decide +kernel) (fun q => by cases q) (fun _ => Nat.le_of_ble_eq_true rfl) (pX4_readTarget_w ho hq_0_0 hq_0_1 hq_0_2 s0 s1 s2 s3 a0) x hx _ _ ⟨rfl, rfl⟩
end
section
variable {l : Launch} {n0 S0 : Nat} {h : aH} {b0 b1 b2 b3 : Nat} {f0 f1 f2 f3 : Nat → Option Nat}
abbrev MX4_readTest : aM := (cX4_readTest, RX4, 3, (some .boolean), false)
def pX4_readTest (s0 : RS) (s1 : RS) (s2 : RS) (s3 : RS) (a0 : Int32) : Option (Bool × RS × RS) :=
  (pX8_kindHere s1).bind fun x1 =>
  g_in a0 60 (thn (uA s3 2 (upd (s3.2.2.1 2) a0.toNatClampNeg x1)) fun s_2 =>
  if x1 = 20 then
    (pX8_advance s1).bind fun x3 =>
    (pX4_readIsland s0 x3 s2 s_2 a0).bind fun x4 =>
    if x4.1 = true then
      (pX4_readChange s0 x4.2.1 s2 x4.2.2 a0).bind fun x5 =>
      if x5.1 = true then
        some (true, x5.2.1, x5.2.2)
      else
        some (false, x5.2.1, x5.2.2)
    else
      some (false, x4.2.1, x4.2.2)
  else
    if x1 = 21 then
      (pX8_advance s1).bind fun x6 =>
      (pX4_readIsland s0 x6 s2 s_2 a0).bind fun x7 =>
      some (x7.1, x7.2.1, x7.2.2)
    else
      if x1 = 22 then
        (pX8_advance s1).bind fun x8 =>
        (pX4_readNumber s0 x8 s2 s_2 a0 (0 : Int32) (999 : Int32)).bind fun x9 =>
        some (x9.1, x9.2.1, x9.2.2)
      else
        (pX8_blameToken s1).bind fun x10 =>
        some (x10.1, x10.2, s_2))
theorem pX4_readTest_w (ho : xok [(4, b0), (8, b1), (0, b2), (3, b3)] h.2.1) (hq_0_0 : f0 0 = some b1) (hq_0_1 : f0 1 = some b2) (hq_0_2 : f0 2 = some b3) (s0 : RS) (s1 : RS) (s2 : RS) (s3 : RS) (a0 : Int32) : aS l 3 MX4_readTest n0 S0 (oΦ (fun (x : Bool × RS × RS) => ((some (.int (b2i x.1))), xw [(4, b0, f0, s0), (8, b1, f1, x.2.1), (0, b2, f2, s2), (3, b3, f3, x.2.2)] h))) 0 [(0, .ref b0), (1, .int a0)] [] (xw [(4, b0, f0, s0), (8, b1, f1, s1), (0, b2, f2, s2), (3, b3, f3, s3)] h) (pX4_readTest s0 s1 s2 s3 a0) := by
  unfold pX4_readTest
  refine s_aload_n (pc := 0) 0 dX4_readTest_0 rfl ?_
  refine xg_X4_26 0 ho rfl (pc := 1) dX4_readTest_1 rfl hq_0_0 ?_
  refine x_callV (M := MX4_readTest) (L := [(4, b0, f0, s0), (8, b1, f1, s1), (0, b2, f2, s2), (3, b3, f3, s3)]) (h := h) (j := 1) (As := []) (st := []) (A := fun (x : Int32) => some (.int x)) (Lc := [(8, b1, f1, s1)]) (Lr := fun (x : Int32) => [(8, b1, f1, s1)]) (L2 := fun (x : Int32) => [(4, b0, f0, s0), (8, b1, f1, s1), (0, b2, f2, s2), (3, b3, f3, s3)]) cv_X4_47 (by decide) (pc := 4) dX4_readTest_4 ho rfl xc0_8 rfl rfl (Nat.le_of_ble_eq_true rfl) (xovs (L := [(4, b0, f0, s0), (8, b1, f1, s1), (0, b2, f2, s2), (3, b3, f3, s3)]) (h := h) [(1, (8, b1, f1, s1))] ho ⟨rfl, trivial⟩).1 (fun x => (xovs (L := [(4, b0, f0, s0), (8, b1, f1, s1), (0, b2, f2, s2), (3, b3, f3, s3)]) (h := h) [(1, (8, b1, f1, s1))] ho ⟨rfl, trivial⟩).1) (fun x hx => pX8_kindHere_ok (h := xw [(4, b0, f0, s0), (8, b1, f1, s1), (0, b2, f2, s2), (3, b3, f3, s3)] h) (f0 := f1) (xok_sub ho [1] rfl (by decide)) s1 x hx) rfl (fun x1 _ => ?_)
  refine s_istore_n (lv' := [(2, .int x1), (0, .ref b0), (1, .int a0)]) (pc := 7) dX4_readTest_7 (by decide) rfl ?_
  refine s_aload_n (pc := 8) 1 dX4_readTest_8 rfl ?_
  refine xg_X4_12 0 ho rfl (pc := 9) dX4_readTest_9 rfl hq_0_2 ?_
  refine xg_X4_68 3 ho rfl (pc := 12) dX4_readTest_12 rfl ?_
  refine s_iload_n (pc := 15) 2 dX4_readTest_15 rfl ?_
  refine s_iload_n (pc := 16) 0 dX4_readTest_16 rfl ?_
  refine xs_3_2 (L' := fun s_2 => [(4, b0, f0, s0), (8, b1, f1, s1), (0, b2, f2, s2), (3, b3, f3, s_2)]) 3 ho rfl (fun _ => rfl) (pc := 17) dX4_readTest_17 (fun s_2 => ?_)
  refine s_iload_n (pc := 18) 0 dX4_readTest_18 rfl ?_
  refine s_case (c := x1 = 20) (fun c0 => ?_) (fun n11 => ?_)
  · refine s_tabIn (tgt := 44) (off := 25) (pc := 19) dX4_readTest_19 (by rw [c0]; decide) (by rw [c0]; decide) (by rw [c0]; rfl) (by decide) ?_
    refine s_aload_n (pc := 44) 1 dX4_readTest_44 rfl ?_
    refine xg_X4_26 0 ho rfl (pc := 45) dX4_readTest_45 rfl hq_0_0 ?_
    refine x_callV (M := MX4_readTest) (L := [(4, b0, f0, s0), (8, b1, f1, s1), (0, b2, f2, s2), (3, b3, f3, s_2)]) (h := h) (j := 1) (As := []) (st := []) (A := fun (x : RS) => none) (Lc := [(8, b1, f1, s1)]) (Lr := fun (x : RS) => [(8, b1, f1, x)]) (L2 := fun (x : RS) => [(4, b0, f0, s0), (8, b1, f1, x), (0, b2, f2, s2), (3, b3, f3, s_2)]) cv_X4_74 (by decide) (pc := 48) dX4_readTest_48 ho rfl xc0_8 rfl rfl (Nat.le_of_ble_eq_true rfl) (xovs (L := [(4, b0, f0, s0), (8, b1, f1, s1), (0, b2, f2, s2), (3, b3, f3, s_2)]) (h := h) [(1, (8, b1, f1, s1))] ho ⟨rfl, trivial⟩).1 (fun x => (xovs (L := [(4, b0, f0, s0), (8, b1, f1, s1), (0, b2, f2, s2), (3, b3, f3, s_2)]) (h := h) [(1, (8, b1, f1, x))] ho ⟨rfl, trivial⟩).1) (fun x hx => pX8_advance_ok (h := xw [(4, b0, f0, s0), (8, b1, f1, s1), (0, b2, f2, s2), (3, b3, f3, s_2)] h) (f0 := f1) (xok_sub ho [1] rfl (by decide)) s1 x hx) rfl (fun x3 _ => ?_)
    refine s_aload_n (pc := 51) 1 dX4_readTest_51 rfl ?_
    refine s_iload_n (pc := 52) 2 dX4_readTest_52 rfl ?_
    refine x_callV (M := MX4_readTest) (L := [(4, b0, f0, s0), (8, b1, f1, x3), (0, b2, f2, s2), (3, b3, f3, s_2)]) (h := h) (j := 0) (As := [.int a0]) (st := []) (A := fun (x : Bool × RS × RS) => some (.int (b2i x.1))) (Lc := [(4, b0, f0, s0), (8, b1, f1, x3), (0, b2, f2, s2), (3, b3, f3, s_2)]) (Lr := fun (x : Bool × RS × RS) => [(4, b0, f0, s0), (8, b1, f1, x.2.1), (0, b2, f2, s2), (3, b3, f3, x.2.2)]) (L2 := fun (x : Bool × RS × RS) => [(4, b0, f0, s0), (8, b1, f1, x.2.1), (0, b2, f2, s2), (3, b3, f3, x.2.2)]) cv_X4_89 (by decide) (pc := 53) dX4_readTest_53 ho rfl xc0_4 rfl rfl (Nat.le_of_ble_eq_true rfl) (xovs (L := [(4, b0, f0, s0), (8, b1, f1, x3), (0, b2, f2, s2), (3, b3, f3, s_2)]) (h := h) [(0, (4, b0, f0, s0)), (1, (8, b1, f1, x3)), (2, (0, b2, f2, s2)), (3, (3, b3, f3, s_2))] ho ⟨rfl, rfl, rfl, rfl, trivial⟩).1 (fun x => (xovs (L := [(4, b0, f0, s0), (8, b1, f1, x3), (0, b2, f2, s2), (3, b3, f3, s_2)]) (h := h) [(0, (4, b0, f0, s0)), (1, (8, b1, f1, x.2.1)), (2, (0, b2, f2, s2)), (3, (3, b3, f3, x.2.2))] ho ⟨rfl, rfl, rfl, rfl, trivial⟩).1) (fun x hx => pX4_readIsland_ok (h := xw [(4, b0, f0, s0), (8, b1, f1, x3), (0, b2, f2, s2), (3, b3, f3, s_2)] h) (f0 := f0) (f1 := f1) (f2 := f2) (f3 := f3) (xok_sub ho [0, 1, 2, 3] rfl (by decide)) hq_0_0 hq_0_1 hq_0_2 s0 x3 s2 s_2 a0 x hx) rfl (fun x4 _ => ?_)
    refine s_if_eqB (tgt := 71) (pc := 56) dX4_readTest_56 (by decide) (fun _ => ?_) (fun _ => ?_)
    · refine s_aload_n (pc := 59) 1 dX4_readTest_59 rfl ?_
      refine s_iload_n (pc := 60) 2 dX4_readTest_60 rfl ?_
      refine x_callV (M := MX4_readTest) (L := [(4, b0, f0, s0), (8, b1, f1, x4.2.1), (0, b2, f2, s2), (3, b3, f3, x4.2.2)]) (h := h) (j := 0) (As := [.int a0]) (st := []) (A := fun (x : Bool × RS × RS) => some (.int (b2i x.1))) (Lc := [(4, b0, f0, s0), (8, b1, f1, x4.2.1), (0, b2, f2, s2), (3, b3, f3, x4.2.2)]) (Lr := fun (x : Bool × RS × RS) => [(4, b0, f0, s0), (8, b1, f1, x.2.1), (0, b2, f2, s2), (3, b3, f3, x.2.2)]) (L2 := fun (x : Bool × RS × RS) => [(4, b0, f0, s0), (8, b1, f1, x.2.1), (0, b2, f2, s2), (3, b3, f3, x.2.2)]) cv_X4_86 (by decide) (pc := 61) dX4_readTest_61 ho rfl xc0_4 rfl rfl (Nat.le_of_ble_eq_true rfl) (xovs (L := [(4, b0, f0, s0), (8, b1, f1, x4.2.1), (0, b2, f2, s2), (3, b3, f3, x4.2.2)]) (h := h) [(0, (4, b0, f0, s0)), (1, (8, b1, f1, x4.2.1)), (2, (0, b2, f2, s2)), (3, (3, b3, f3, x4.2.2))] ho ⟨rfl, rfl, rfl, rfl, trivial⟩).1 (fun x => (xovs (L := [(4, b0, f0, s0), (8, b1, f1, x4.2.1), (0, b2, f2, s2), (3, b3, f3, x4.2.2)]) (h := h) [(0, (4, b0, f0, s0)), (1, (8, b1, f1, x.2.1)), (2, (0, b2, f2, s2)), (3, (3, b3, f3, x.2.2))] ho ⟨rfl, rfl, rfl, rfl, trivial⟩).1) (fun x hx => pX4_readChange_ok (h := xw [(4, b0, f0, s0), (8, b1, f1, x4.2.1), (0, b2, f2, s2), (3, b3, f3, x4.2.2)] h) (f0 := f0) (f1 := f1) (f2 := f2) (f3 := f3) (xok_sub ho [0, 1, 2, 3] rfl (by decide)) hq_0_0 hq_0_1 hq_0_2 s0 x4.2.1 s2 x4.2.2 a0 x hx) rfl (fun x5 _ => ?_)
      refine s_if_eqB (tgt := 71) (pc := 64) dX4_readTest_64 (by decide) (fun _ => ?_) (fun _ => ?_)
      · refine s_iconst (v := 1) (pc := 67) dX4_readTest_67 (by decide) ?_
        refine s_goto (tgt := 72) (pc := 68) dX4_readTest_68 (by decide) ?_
        exact s_zretB (b := true) (pc := 72) dX4_readTest_72 rfl (fun _ _ q => q)
      · refine s_iconst (v := 0) (pc := 71) dX4_readTest_71 (by decide) ?_
        exact s_zretB (b := false) (pc := 72) dX4_readTest_72 rfl (fun _ _ q => q)
    · refine s_iconst (v := 0) (pc := 71) dX4_readTest_71 (by decide) ?_
      exact s_zretB (b := false) (pc := 72) dX4_readTest_72 rfl (fun _ _ q => q)
  · refine s_case (c := x1 = 21) (fun c0 => ?_) (fun n12 => ?_)
    · refine s_tabIn (tgt := 73) (off := 54) (pc := 19) dX4_readTest_19 (by rw [c0]; decide) (by rw [c0]; decide) (by rw [c0]; rfl) (by decide) ?_
      refine s_aload_n (pc := 73) 1 dX4_readTest_73 rfl ?_
      refine xg_X4_26 0 ho rfl (pc := 74) dX4_readTest_74 rfl hq_0_0 ?_
      refine x_callV (M := MX4_readTest) (L := [(4, b0, f0, s0), (8, b1, f1, s1), (0, b2, f2, s2), (3, b3, f3, s_2)]) (h := h) (j := 1) (As := []) (st := []) (A := fun (x : RS) => none) (Lc := [(8, b1, f1, s1)]) (Lr := fun (x : RS) => [(8, b1, f1, x)]) (L2 := fun (x : RS) => [(4, b0, f0, s0), (8, b1, f1, x), (0, b2, f2, s2), (3, b3, f3, s_2)]) cv_X4_74 (by decide) (pc := 77) dX4_readTest_77 ho rfl xc0_8 rfl rfl (Nat.le_of_ble_eq_true rfl) (xovs (L := [(4, b0, f0, s0), (8, b1, f1, s1), (0, b2, f2, s2), (3, b3, f3, s_2)]) (h := h) [(1, (8, b1, f1, s1))] ho ⟨rfl, trivial⟩).1 (fun x => (xovs (L := [(4, b0, f0, s0), (8, b1, f1, s1), (0, b2, f2, s2), (3, b3, f3, s_2)]) (h := h) [(1, (8, b1, f1, x))] ho ⟨rfl, trivial⟩).1) (fun x hx => pX8_advance_ok (h := xw [(4, b0, f0, s0), (8, b1, f1, s1), (0, b2, f2, s2), (3, b3, f3, s_2)] h) (f0 := f1) (xok_sub ho [1] rfl (by decide)) s1 x hx) rfl (fun x6 _ => ?_)
      refine s_aload_n (pc := 80) 1 dX4_readTest_80 rfl ?_
      refine s_iload_n (pc := 81) 2 dX4_readTest_81 rfl ?_
      refine x_callV (M := MX4_readTest) (L := [(4, b0, f0, s0), (8, b1, f1, x6), (0, b2, f2, s2), (3, b3, f3, s_2)]) (h := h) (j := 0) (As := [.int a0]) (st := []) (A := fun (x : Bool × RS × RS) => some (.int (b2i x.1))) (Lc := [(4, b0, f0, s0), (8, b1, f1, x6), (0, b2, f2, s2), (3, b3, f3, s_2)]) (Lr := fun (x : Bool × RS × RS) => [(4, b0, f0, s0), (8, b1, f1, x.2.1), (0, b2, f2, s2), (3, b3, f3, x.2.2)]) (L2 := fun (x : Bool × RS × RS) => [(4, b0, f0, s0), (8, b1, f1, x.2.1), (0, b2, f2, s2), (3, b3, f3, x.2.2)]) cv_X4_89 (by decide) (pc := 82) dX4_readTest_82 ho rfl xc0_4 rfl rfl (Nat.le_of_ble_eq_true rfl) (xovs (L := [(4, b0, f0, s0), (8, b1, f1, x6), (0, b2, f2, s2), (3, b3, f3, s_2)]) (h := h) [(0, (4, b0, f0, s0)), (1, (8, b1, f1, x6)), (2, (0, b2, f2, s2)), (3, (3, b3, f3, s_2))] ho ⟨rfl, rfl, rfl, rfl, trivial⟩).1 (fun x => (xovs (L := [(4, b0, f0, s0), (8, b1, f1, x6), (0, b2, f2, s2), (3, b3, f3, s_2)]) (h := h) [(0, (4, b0, f0, s0)), (1, (8, b1, f1, x.2.1)), (2, (0, b2, f2, s2)), (3, (3, b3, f3, x.2.2))] ho ⟨rfl, rfl, rfl, rfl, trivial⟩).1) (fun x hx => pX4_readIsland_ok (h := xw [(4, b0, f0, s0), (8, b1, f1, x6), (0, b2, f2, s2), (3, b3, f3, s_2)] h) (f0 := f0) (f1 := f1) (f2 := f2) (f3 := f3) (xok_sub ho [0, 1, 2, 3] rfl (by decide)) hq_0_0 hq_0_1 hq_0_2 s0 x6 s2 s_2 a0 x hx) rfl (fun x7 _ => ?_)
      exact s_zretB (b := x7.1) (pc := 85) dX4_readTest_85 rfl (fun _ _ q => q)
    · refine s_case (c := x1 = 22) (fun c0 => ?_) (fun n13 => ?_)
      · refine s_tabIn (tgt := 86) (off := 67) (pc := 19) dX4_readTest_19 (by rw [c0]; decide) (by rw [c0]; decide) (by rw [c0]; rfl) (by decide) ?_
        refine s_aload_n (pc := 86) 1 dX4_readTest_86 rfl ?_
        refine xg_X4_26 0 ho rfl (pc := 87) dX4_readTest_87 rfl hq_0_0 ?_
        refine x_callV (M := MX4_readTest) (L := [(4, b0, f0, s0), (8, b1, f1, s1), (0, b2, f2, s2), (3, b3, f3, s_2)]) (h := h) (j := 1) (As := []) (st := []) (A := fun (x : RS) => none) (Lc := [(8, b1, f1, s1)]) (Lr := fun (x : RS) => [(8, b1, f1, x)]) (L2 := fun (x : RS) => [(4, b0, f0, s0), (8, b1, f1, x), (0, b2, f2, s2), (3, b3, f3, s_2)]) cv_X4_74 (by decide) (pc := 90) dX4_readTest_90 ho rfl xc0_8 rfl rfl (Nat.le_of_ble_eq_true rfl) (xovs (L := [(4, b0, f0, s0), (8, b1, f1, s1), (0, b2, f2, s2), (3, b3, f3, s_2)]) (h := h) [(1, (8, b1, f1, s1))] ho ⟨rfl, trivial⟩).1 (fun x => (xovs (L := [(4, b0, f0, s0), (8, b1, f1, s1), (0, b2, f2, s2), (3, b3, f3, s_2)]) (h := h) [(1, (8, b1, f1, x))] ho ⟨rfl, trivial⟩).1) (fun x hx => pX8_advance_ok (h := xw [(4, b0, f0, s0), (8, b1, f1, s1), (0, b2, f2, s2), (3, b3, f3, s_2)] h) (f0 := f1) (xok_sub ho [1] rfl (by decide)) s1 x hx) rfl (fun x8 _ => ?_)
        refine s_aload_n (pc := 93) 1 dX4_readTest_93 rfl ?_
        refine s_iload_n (pc := 94) 2 dX4_readTest_94 rfl ?_
        refine s_iconst (v := 0) (pc := 95) dX4_readTest_95 (by decide) ?_
        refine s_sipush (v := 999) (pc := 96) dX4_readTest_96 (by decide) ?_
        refine x_callV (M := MX4_readTest) (L := [(4, b0, f0, s0), (8, b1, f1, x8), (0, b2, f2, s2), (3, b3, f3, s_2)]) (h := h) (j := 0) (As := [.int a0, .int 0, .int 999]) (st := []) (A := fun (x : Bool × RS × RS) => some (.int (b2i x.1))) (Lc := [(4, b0, f0, s0), (8, b1, f1, x8), (0, b2, f2, s2), (3, b3, f3, s_2)]) (Lr := fun (x : Bool × RS × RS) => [(4, b0, f0, s0), (8, b1, f1, x.2.1), (0, b2, f2, s2), (3, b3, f3, x.2.2)]) (L2 := fun (x : Bool × RS × RS) => [(4, b0, f0, s0), (8, b1, f1, x.2.1), (0, b2, f2, s2), (3, b3, f3, x.2.2)]) cv_X4_98 (by decide) (pc := 99) dX4_readTest_99 ho rfl xc0_4 rfl rfl (Nat.le_of_ble_eq_true rfl) (xovs (L := [(4, b0, f0, s0), (8, b1, f1, x8), (0, b2, f2, s2), (3, b3, f3, s_2)]) (h := h) [(0, (4, b0, f0, s0)), (1, (8, b1, f1, x8)), (2, (0, b2, f2, s2)), (3, (3, b3, f3, s_2))] ho ⟨rfl, rfl, rfl, rfl, trivial⟩).1 (fun x => (xovs (L := [(4, b0, f0, s0), (8, b1, f1, x8), (0, b2, f2, s2), (3, b3, f3, s_2)]) (h := h) [(0, (4, b0, f0, s0)), (1, (8, b1, f1, x.2.1)), (2, (0, b2, f2, s2)), (3, (3, b3, f3, x.2.2))] ho ⟨rfl, rfl, rfl, rfl, trivial⟩).1) (fun x hx => pX4_readNumber_ok (h := xw [(4, b0, f0, s0), (8, b1, f1, x8), (0, b2, f2, s2), (3, b3, f3, s_2)] h) (f0 := f0) (f1 := f1) (f2 := f2) (f3 := f3) (xok_sub ho [0, 1, 2, 3] rfl (by decide)) hq_0_0 hq_0_1 hq_0_2 s0 x8 s2 s_2 a0 (0 : Int32) (999 : Int32) x hx) rfl (fun x9 _ => ?_)
        exact s_zretB (b := x9.1) (pc := 102) dX4_readTest_102 rfl (fun _ _ q => q)
      · refine s_tabOut (tgt := 103) (pc := 19) dX4_readTest_19 (sw_out (fun i h1 h2 => by
          have hi : i = 20 ∨ i = 21 ∨ i = 22 := by omega
          rcases hi with rfl | rfl | rfl
          · exact fun q => n11 (q.trans (by decide))
          · exact fun q => n12 (q.trans (by decide))
          · exact fun q => n13 (q.trans (by decide)))) (by decide) ?_
        refine s_aload_n (pc := 103) 1 dX4_readTest_103 rfl ?_
        refine xg_X4_26 0 ho rfl (pc := 104) dX4_readTest_104 rfl hq_0_0 ?_
        refine x_callV (M := MX4_readTest) (L := [(4, b0, f0, s0), (8, b1, f1, s1), (0, b2, f2, s2), (3, b3, f3, s_2)]) (h := h) (j := 1) (As := []) (st := []) (A := fun (x : Bool × RS) => some (.int (b2i x.1))) (Lc := [(8, b1, f1, s1)]) (Lr := fun (x : Bool × RS) => [(8, b1, f1, x.2)]) (L2 := fun (x : Bool × RS) => [(4, b0, f0, s0), (8, b1, f1, x.2), (0, b2, f2, s2), (3, b3, f3, s_2)]) cv_X4_65 (by decide) (pc := 107) dX4_readTest_107 ho rfl xc0_8 rfl rfl (Nat.le_of_ble_eq_true rfl) (xovs (L := [(4, b0, f0, s0), (8, b1, f1, s1), (0, b2, f2, s2), (3, b3, f3, s_2)]) (h := h) [(1, (8, b1, f1, s1))] ho ⟨rfl, trivial⟩).1 (fun x => (xovs (L := [(4, b0, f0, s0), (8, b1, f1, s1), (0, b2, f2, s2), (3, b3, f3, s_2)]) (h := h) [(1, (8, b1, f1, x.2))] ho ⟨rfl, trivial⟩).1) (fun x hx => pX8_blameToken_ok (h := xw [(4, b0, f0, s0), (8, b1, f1, s1), (0, b2, f2, s2), (3, b3, f3, s_2)] h) (f0 := f1) (xok_sub ho [1] rfl (by decide)) s1 x hx) rfl (fun x10 _ => ?_)
        exact s_zretB (b := x10.1) (pc := 110) dX4_readTest_110 rfl (fun _ _ q => q)
theorem pX4_readTest_ok (ho : xok [(4, b0), (8, b1), (0, b2), (3, b3)] h.2.1) (hq_0_0 : f0 0 = some b1) (hq_0_1 : f0 1 = some b2) (hq_0_2 : f0 2 = some b3) (s0 : RS) (s1 : RS) (s2 : RS) (s3 : RS) (a0 : Int32) : ∀ x, pX4_readTest s0 s1 s2 s3 a0 = some x → aMet l 3 yX4_readTest cX4_readTest 3 (some .boolean) [.ref b0, .int a0] (xw [(4, b0, f0, s0), (8, b1, f1, s1), (0, b2, f2, s2), (3, b3, f3, s3)] h) (some (.int (b2i x.1))) (xw [(4, b0, f0, s0), (8, b1, f1, x.2.1), (0, b2, f2, s2), (3, b3, f3, x.2.2)] h) := fun x hx => a_meth (ini := false) (y := yX4_readTest) (by decide +kernel) (fun q => by cases q) (fun _ => Nat.le_of_ble_eq_true rfl) (pX4_readTest_w ho hq_0_0 hq_0_1 hq_0_2 s0 s1 s2 s3 a0) x hx _ _ ⟨rfl, rfl⟩
end
section
variable {l : Launch} {n0 S0 : Nat} {h : aH} {b0 b1 b2 b3 : Nat} {f0 f1 f2 f3 : Nat → Option Nat}
abbrev MX4_readBody : aM := (cX4_readBody, RX4, 3, (some .boolean), false)
def X4_readBody_j76 (v1 : Int32) (s0 : RS) (s1 : RS) (s2 : RS) (s3 : RS) : Option (Bool × RS × RS) :=
  (pX4_readChange s0 s1 s2 s3 v1).bind fun x1 =>
  if x1.1 = true then
    (pX8_pass x1.2.1 (12 : Int32)).bind fun x2 =>
    if x2.1 = true then
      (pX4_readIsland s0 x2.2 s2 x1.2.2 v1).bind fun x3 =>
      if x3.1 = true then
        some (true, x3.2.1, x3.2.2)
      else
        some (false, x3.2.1, x3.2.2)
    else
      some (false, x2.2, x1.2.2)
  else
    some (false, x1.2.1, x1.2.2)
theorem X4_readBody_j76_ok (ho : xok [(4, b0), (8, b1), (0, b2), (3, b3)] h.2.1) (hq_0_0 : f0 0 = some b1) (hq_0_1 : f0 1 = some b2) (hq_0_2 : f0 2 = some b3) (v1 : Int32) (s0 : RS) (s1 : RS) (s2 : RS) (s3 : RS) : aS l 4 MX4_readBody n0 S0 (oΦ (fun (x : Bool × RS × RS) => ((some (.int (b2i x.1))), xw [(4, b0, f0, s0), (8, b1, f1, x.2.1), (0, b2, f2, s2), (3, b3, f3, x.2.2)] h))) 76 [(0, .ref b0), (1, .int v1)] [] (xw [(4, b0, f0, s0), (8, b1, f1, s1), (0, b2, f2, s2), (3, b3, f3, s3)] h) (X4_readBody_j76 v1 s0 s1 s2 s3) := by
  unfold X4_readBody_j76
  refine s_aload_n (pc := 76) 0 dX4_readBody_76 rfl ?_
  refine s_iload_n (pc := 77) 1 dX4_readBody_77 rfl ?_
  refine x_callV (M := MX4_readBody) (L := [(4, b0, f0, s0), (8, b1, f1, s1), (0, b2, f2, s2), (3, b3, f3, s3)]) (h := h) (j := 0) (As := [.int v1]) (st := []) (A := fun (x : Bool × RS × RS) => some (.int (b2i x.1))) (Lc := [(4, b0, f0, s0), (8, b1, f1, s1), (0, b2, f2, s2), (3, b3, f3, s3)]) (Lr := fun (x : Bool × RS × RS) => [(4, b0, f0, s0), (8, b1, f1, x.2.1), (0, b2, f2, s2), (3, b3, f3, x.2.2)]) (L2 := fun (x : Bool × RS × RS) => [(4, b0, f0, s0), (8, b1, f1, x.2.1), (0, b2, f2, s2), (3, b3, f3, x.2.2)]) cv_X4_86 (by decide) (pc := 78) dX4_readBody_78 ho rfl xc0_4 rfl rfl (Nat.le_of_ble_eq_true rfl) (xovs (L := [(4, b0, f0, s0), (8, b1, f1, s1), (0, b2, f2, s2), (3, b3, f3, s3)]) (h := h) [(0, (4, b0, f0, s0)), (1, (8, b1, f1, s1)), (2, (0, b2, f2, s2)), (3, (3, b3, f3, s3))] ho ⟨rfl, rfl, rfl, rfl, trivial⟩).1 (fun x => (xovs (L := [(4, b0, f0, s0), (8, b1, f1, s1), (0, b2, f2, s2), (3, b3, f3, s3)]) (h := h) [(0, (4, b0, f0, s0)), (1, (8, b1, f1, x.2.1)), (2, (0, b2, f2, s2)), (3, (3, b3, f3, x.2.2))] ho ⟨rfl, rfl, rfl, rfl, trivial⟩).1) (fun x hx => pX4_readChange_ok (h := xw [(4, b0, f0, s0), (8, b1, f1, s1), (0, b2, f2, s2), (3, b3, f3, s3)] h) (f0 := f0) (f1 := f1) (f2 := f2) (f3 := f3) (xok_sub ho [0, 1, 2, 3] rfl (by decide)) hq_0_0 hq_0_1 hq_0_2 s0 s1 s2 s3 v1 x hx) rfl (fun x1 _ => ?_)
  refine s_if_eqB (tgt := 108) (pc := 81) dX4_readBody_81 (by decide) (fun _ => ?_) (fun _ => ?_)
  · refine s_aload_n (pc := 84) 0 dX4_readBody_84 rfl ?_
    refine xg_X4_26 0 ho rfl (pc := 85) dX4_readBody_85 rfl hq_0_0 ?_
    refine s_bipush (v := 12) (pc := 88) dX4_readBody_88 (by decide) ?_
    refine x_callV (M := MX4_readBody) (L := [(4, b0, f0, s0), (8, b1, f1, x1.2.1), (0, b2, f2, s2), (3, b3, f3, x1.2.2)]) (h := h) (j := 1) (As := [.int 12]) (st := []) (A := fun (x : Bool × RS) => some (.int (b2i x.1))) (Lc := [(8, b1, f1, x1.2.1)]) (Lr := fun (x : Bool × RS) => [(8, b1, f1, x.2)]) (L2 := fun (x : Bool × RS) => [(4, b0, f0, s0), (8, b1, f1, x.2), (0, b2, f2, s2), (3, b3, f3, x1.2.2)]) cv_X4_62 (by decide) (pc := 90) dX4_readBody_90 ho rfl xc0_8 rfl rfl (Nat.le_of_ble_eq_true rfl) (xovs (L := [(4, b0, f0, s0), (8, b1, f1, x1.2.1), (0, b2, f2, s2), (3, b3, f3, x1.2.2)]) (h := h) [(1, (8, b1, f1, x1.2.1))] ho ⟨rfl, trivial⟩).1 (fun x => (xovs (L := [(4, b0, f0, s0), (8, b1, f1, x1.2.1), (0, b2, f2, s2), (3, b3, f3, x1.2.2)]) (h := h) [(1, (8, b1, f1, x.2))] ho ⟨rfl, trivial⟩).1) (fun x hx => pX8_pass_ok (h := xw [(4, b0, f0, s0), (8, b1, f1, x1.2.1), (0, b2, f2, s2), (3, b3, f3, x1.2.2)] h) (f0 := f1) (xok_sub ho [1] rfl (by decide)) x1.2.1 (12 : Int32) x hx) rfl (fun x2 _ => ?_)
    refine s_if_eqB (tgt := 108) (pc := 93) dX4_readBody_93 (by decide) (fun _ => ?_) (fun _ => ?_)
    · refine s_aload_n (pc := 96) 0 dX4_readBody_96 rfl ?_
      refine s_iload_n (pc := 97) 1 dX4_readBody_97 rfl ?_
      refine x_callV (M := MX4_readBody) (L := [(4, b0, f0, s0), (8, b1, f1, x2.2), (0, b2, f2, s2), (3, b3, f3, x1.2.2)]) (h := h) (j := 0) (As := [.int v1]) (st := []) (A := fun (x : Bool × RS × RS) => some (.int (b2i x.1))) (Lc := [(4, b0, f0, s0), (8, b1, f1, x2.2), (0, b2, f2, s2), (3, b3, f3, x1.2.2)]) (Lr := fun (x : Bool × RS × RS) => [(4, b0, f0, s0), (8, b1, f1, x.2.1), (0, b2, f2, s2), (3, b3, f3, x.2.2)]) (L2 := fun (x : Bool × RS × RS) => [(4, b0, f0, s0), (8, b1, f1, x.2.1), (0, b2, f2, s2), (3, b3, f3, x.2.2)]) cv_X4_89 (by decide) (pc := 98) dX4_readBody_98 ho rfl xc0_4 rfl rfl (Nat.le_of_ble_eq_true rfl) (xovs (L := [(4, b0, f0, s0), (8, b1, f1, x2.2), (0, b2, f2, s2), (3, b3, f3, x1.2.2)]) (h := h) [(0, (4, b0, f0, s0)), (1, (8, b1, f1, x2.2)), (2, (0, b2, f2, s2)), (3, (3, b3, f3, x1.2.2))] ho ⟨rfl, rfl, rfl, rfl, trivial⟩).1 (fun x => (xovs (L := [(4, b0, f0, s0), (8, b1, f1, x2.2), (0, b2, f2, s2), (3, b3, f3, x1.2.2)]) (h := h) [(0, (4, b0, f0, s0)), (1, (8, b1, f1, x.2.1)), (2, (0, b2, f2, s2)), (3, (3, b3, f3, x.2.2))] ho ⟨rfl, rfl, rfl, rfl, trivial⟩).1) (fun x hx => pX4_readIsland_ok (h := xw [(4, b0, f0, s0), (8, b1, f1, x2.2), (0, b2, f2, s2), (3, b3, f3, x1.2.2)] h) (f0 := f0) (f1 := f1) (f2 := f2) (f3 := f3) (xok_sub ho [0, 1, 2, 3] rfl (by decide)) hq_0_0 hq_0_1 hq_0_2 s0 x2.2 s2 x1.2.2 v1 x hx) rfl (fun x3 _ => ?_)
      refine s_if_eqB (tgt := 108) (pc := 101) dX4_readBody_101 (by decide) (fun _ => ?_) (fun _ => ?_)
      · refine s_iconst (v := 1) (pc := 104) dX4_readBody_104 (by decide) ?_
        refine s_goto (tgt := 109) (pc := 105) dX4_readBody_105 (by decide) ?_
        exact s_zretB (b := true) (pc := 109) dX4_readBody_109 rfl (fun _ _ q => q)
      · refine s_iconst (v := 0) (pc := 108) dX4_readBody_108 (by decide) ?_
        exact s_zretB (b := false) (pc := 109) dX4_readBody_109 rfl (fun _ _ q => q)
    · refine s_iconst (v := 0) (pc := 108) dX4_readBody_108 (by decide) ?_
      exact s_zretB (b := false) (pc := 109) dX4_readBody_109 rfl (fun _ _ q => q)
  · refine s_iconst (v := 0) (pc := 108) dX4_readBody_108 (by decide) ?_
    exact s_zretB (b := false) (pc := 109) dX4_readBody_109 rfl (fun _ _ q => q)
def X4_readBody_j152 (v1 : Int32) (s0 : RS) (s1 : RS) (s2 : RS) (s3 : RS) : Option (Bool × RS × RS) :=
  (pX4_readNumber s0 s1 s2 s3 v1 (1 : Int32) (99 : Int32)).bind fun x10 =>
  some (x10.1, x10.2.1, x10.2.2)
theorem X4_readBody_j152_ok (ho : xok [(4, b0), (8, b1), (0, b2), (3, b3)] h.2.1) (hq_0_0 : f0 0 = some b1) (hq_0_1 : f0 1 = some b2) (hq_0_2 : f0 2 = some b3) (v1 : Int32) (s0 : RS) (s1 : RS) (s2 : RS) (s3 : RS) : aS l 4 MX4_readBody n0 S0 (oΦ (fun (x : Bool × RS × RS) => ((some (.int (b2i x.1))), xw [(4, b0, f0, s0), (8, b1, f1, x.2.1), (0, b2, f2, s2), (3, b3, f3, x.2.2)] h))) 152 [(0, .ref b0), (1, .int v1)] [] (xw [(4, b0, f0, s0), (8, b1, f1, s1), (0, b2, f2, s2), (3, b3, f3, s3)] h) (X4_readBody_j152 v1 s0 s1 s2 s3) := by
  unfold X4_readBody_j152
  refine s_aload_n (pc := 152) 0 dX4_readBody_152 rfl ?_
  refine s_iload_n (pc := 153) 1 dX4_readBody_153 rfl ?_
  refine s_iconst (v := 1) (pc := 154) dX4_readBody_154 (by decide) ?_
  refine s_bipush (v := 99) (pc := 155) dX4_readBody_155 (by decide) ?_
  refine x_callV (M := MX4_readBody) (L := [(4, b0, f0, s0), (8, b1, f1, s1), (0, b2, f2, s2), (3, b3, f3, s3)]) (h := h) (j := 0) (As := [.int v1, .int 1, .int 99]) (st := []) (A := fun (x : Bool × RS × RS) => some (.int (b2i x.1))) (Lc := [(4, b0, f0, s0), (8, b1, f1, s1), (0, b2, f2, s2), (3, b3, f3, s3)]) (Lr := fun (x : Bool × RS × RS) => [(4, b0, f0, s0), (8, b1, f1, x.2.1), (0, b2, f2, s2), (3, b3, f3, x.2.2)]) (L2 := fun (x : Bool × RS × RS) => [(4, b0, f0, s0), (8, b1, f1, x.2.1), (0, b2, f2, s2), (3, b3, f3, x.2.2)]) cv_X4_98 (by decide) (pc := 157) dX4_readBody_157 ho rfl xc0_4 rfl rfl (Nat.le_of_ble_eq_true rfl) (xovs (L := [(4, b0, f0, s0), (8, b1, f1, s1), (0, b2, f2, s2), (3, b3, f3, s3)]) (h := h) [(0, (4, b0, f0, s0)), (1, (8, b1, f1, s1)), (2, (0, b2, f2, s2)), (3, (3, b3, f3, s3))] ho ⟨rfl, rfl, rfl, rfl, trivial⟩).1 (fun x => (xovs (L := [(4, b0, f0, s0), (8, b1, f1, s1), (0, b2, f2, s2), (3, b3, f3, s3)]) (h := h) [(0, (4, b0, f0, s0)), (1, (8, b1, f1, x.2.1)), (2, (0, b2, f2, s2)), (3, (3, b3, f3, x.2.2))] ho ⟨rfl, rfl, rfl, rfl, trivial⟩).1) (fun x hx => pX4_readNumber_ok (h := xw [(4, b0, f0, s0), (8, b1, f1, s1), (0, b2, f2, s2), (3, b3, f3, s3)] h) (f0 := f0) (f1 := f1) (f2 := f2) (f3 := f3) (xok_sub ho [0, 1, 2, 3] rfl (by decide)) hq_0_0 hq_0_1 hq_0_2 s0 s1 s2 s3 v1 (1 : Int32) (99 : Int32) x hx) rfl (fun x10 _ => ?_)
  exact s_zretB (b := x10.1) (pc := 160) dX4_readBody_160 rfl (fun _ _ q => q)
def pX4_readBody (s0 : RS) (s1 : RS) (s2 : RS) (s3 : RS) (a0 : Int32) (a1 : Int32) : Option (Bool × RS × RS) :=
  if a1 = 11 then
    X4_readBody_j76 a0 s0 s1 s2 s3
  else
    if a1 = 12 then
      some (true, s1, s3)
    else
      if a1 = 13 then
        (pX4_readIsland s0 s1 s2 s3 a0).bind fun x4 =>
        if x4.1 = true then
          (pX8_pass x4.2.1 (14 : Int32)).bind fun x5 =>
          if x5.1 = true then
            (pX4_readTarget s0 x5.2 s2 x4.2.2 a0).bind fun x6 =>
            if x6.1 = true then
              (pX4_readDelay s0 x6.2.1 s2 x6.2.2 a0).bind fun x7 =>
              if x7.1 = true then
                some (true, x7.2.1, x7.2.2)
              else
                some (false, x7.2.1, x7.2.2)
            else
              some (false, x6.2.1, x6.2.2)
          else
            some (false, x5.2, x4.2.2)
        else
          some (false, x4.2.1, x4.2.2)
      else
        if a1 = 14 then
          some (true, s1, s3)
        else
          if a1 = 15 then
            some (true, s1, s3)
          else
            if a1 = 16 then
              some (true, s1, s3)
            else
              if a1 = 17 then
                X4_readBody_j76 a0 s0 s1 s2 s3
              else
                if a1 = 18 then
                  X4_readBody_j76 a0 s0 s1 s2 s3
                else
                  if a1 = 19 then
                    (pX4_readTest s0 s1 s2 s3 a0).bind fun x8 =>
                    some (x8.1, x8.2.1, x8.2.2)
                  else
                    if a1 = 20 then
                      some (true, s1, s3)
                    else
                      if a1 = 21 then
                        some (true, s1, s3)
                      else
                        if a1 = 22 then
                          some (true, s1, s3)
                        else
                          if a1 = 23 then
                            (pX4_readNumber s0 s1 s2 s3 a0 (0 : Int32) (16 : Int32)).bind fun x9 =>
                            some (x9.1, x9.2.1, x9.2.2)
                          else
                            if a1 = 24 then
                              X4_readBody_j152 a0 s0 s1 s2 s3
                            else
                              if a1 = 25 then
                                X4_readBody_j152 a0 s0 s1 s2 s3
                              else
                                some (true, s1, s3)
theorem pX4_readBody_w (ho : xok [(4, b0), (8, b1), (0, b2), (3, b3)] h.2.1) (hq_0_0 : f0 0 = some b1) (hq_0_1 : f0 1 = some b2) (hq_0_2 : f0 2 = some b3) (s0 : RS) (s1 : RS) (s2 : RS) (s3 : RS) (a0 : Int32) (a1 : Int32) : aS l 4 MX4_readBody n0 S0 (oΦ (fun (x : Bool × RS × RS) => ((some (.int (b2i x.1))), xw [(4, b0, f0, s0), (8, b1, f1, x.2.1), (0, b2, f2, s2), (3, b3, f3, x.2.2)] h))) 0 [(0, .ref b0), (1, .int a0), (2, .int a1)] [] (xw [(4, b0, f0, s0), (8, b1, f1, s1), (0, b2, f2, s2), (3, b3, f3, s3)] h) (pX4_readBody s0 s1 s2 s3 a0 a1) := by
  unfold pX4_readBody
  refine s_iload_n (pc := 0) 2 dX4_readBody_0 rfl ?_
  refine s_case (c := a1 = 11) (fun c0 => ?_) (fun n11 => ?_)
  · refine s_tabIn (tgt := 76) (off := 75) (pc := 1) dX4_readBody_1 (by rw [c0]; decide) (by rw [c0]; decide) (by rw [c0]; rfl) (by decide) ?_
    refine s_sub [0, 1] rfl ?_
    exact X4_readBody_j76_ok ho hq_0_0 hq_0_1 hq_0_2 a0 s0 s1 s2 s3
  · refine s_case (c := a1 = 12) (fun c0 => ?_) (fun n12 => ?_)
    · refine s_tabIn (tgt := 176) (off := 175) (pc := 1) dX4_readBody_1 (by rw [c0]; decide) (by rw [c0]; decide) (by rw [c0]; rfl) (by decide) ?_
      refine s_iconst (v := 1) (pc := 176) dX4_readBody_176 (by decide) ?_
      exact s_zretB (b := true) (pc := 177) dX4_readBody_177 rfl (fun _ _ q => q)
    · refine s_case (c := a1 = 13) (fun c0 => ?_) (fun n13 => ?_)
      · refine s_tabIn (tgt := 110) (off := 109) (pc := 1) dX4_readBody_1 (by rw [c0]; decide) (by rw [c0]; decide) (by rw [c0]; rfl) (by decide) ?_
        refine s_aload_n (pc := 110) 0 dX4_readBody_110 rfl ?_
        refine s_iload_n (pc := 111) 1 dX4_readBody_111 rfl ?_
        refine x_callV (M := MX4_readBody) (L := [(4, b0, f0, s0), (8, b1, f1, s1), (0, b2, f2, s2), (3, b3, f3, s3)]) (h := h) (j := 0) (As := [.int a0]) (st := []) (A := fun (x : Bool × RS × RS) => some (.int (b2i x.1))) (Lc := [(4, b0, f0, s0), (8, b1, f1, s1), (0, b2, f2, s2), (3, b3, f3, s3)]) (Lr := fun (x : Bool × RS × RS) => [(4, b0, f0, s0), (8, b1, f1, x.2.1), (0, b2, f2, s2), (3, b3, f3, x.2.2)]) (L2 := fun (x : Bool × RS × RS) => [(4, b0, f0, s0), (8, b1, f1, x.2.1), (0, b2, f2, s2), (3, b3, f3, x.2.2)]) cv_X4_89 (by decide) (pc := 112) dX4_readBody_112 ho rfl xc0_4 rfl rfl (Nat.le_of_ble_eq_true rfl) (xovs (L := [(4, b0, f0, s0), (8, b1, f1, s1), (0, b2, f2, s2), (3, b3, f3, s3)]) (h := h) [(0, (4, b0, f0, s0)), (1, (8, b1, f1, s1)), (2, (0, b2, f2, s2)), (3, (3, b3, f3, s3))] ho ⟨rfl, rfl, rfl, rfl, trivial⟩).1 (fun x => (xovs (L := [(4, b0, f0, s0), (8, b1, f1, s1), (0, b2, f2, s2), (3, b3, f3, s3)]) (h := h) [(0, (4, b0, f0, s0)), (1, (8, b1, f1, x.2.1)), (2, (0, b2, f2, s2)), (3, (3, b3, f3, x.2.2))] ho ⟨rfl, rfl, rfl, rfl, trivial⟩).1) (fun x hx => pX4_readIsland_ok (h := xw [(4, b0, f0, s0), (8, b1, f1, s1), (0, b2, f2, s2), (3, b3, f3, s3)] h) (f0 := f0) (f1 := f1) (f2 := f2) (f3 := f3) (xok_sub ho [0, 1, 2, 3] rfl (by decide)) hq_0_0 hq_0_1 hq_0_2 s0 s1 s2 s3 a0 x hx) rfl (fun x4 _ => ?_)
        refine s_if_eqB (tgt := 150) (pc := 115) dX4_readBody_115 (by decide) (fun _ => ?_) (fun _ => ?_)
        · refine s_aload_n (pc := 118) 0 dX4_readBody_118 rfl ?_
          refine xg_X4_26 0 ho rfl (pc := 119) dX4_readBody_119 rfl hq_0_0 ?_
          refine s_bipush (v := 14) (pc := 122) dX4_readBody_122 (by decide) ?_
          refine x_callV (M := MX4_readBody) (L := [(4, b0, f0, s0), (8, b1, f1, x4.2.1), (0, b2, f2, s2), (3, b3, f3, x4.2.2)]) (h := h) (j := 1) (As := [.int 14]) (st := []) (A := fun (x : Bool × RS) => some (.int (b2i x.1))) (Lc := [(8, b1, f1, x4.2.1)]) (Lr := fun (x : Bool × RS) => [(8, b1, f1, x.2)]) (L2 := fun (x : Bool × RS) => [(4, b0, f0, s0), (8, b1, f1, x.2), (0, b2, f2, s2), (3, b3, f3, x4.2.2)]) cv_X4_62 (by decide) (pc := 124) dX4_readBody_124 ho rfl xc0_8 rfl rfl (Nat.le_of_ble_eq_true rfl) (xovs (L := [(4, b0, f0, s0), (8, b1, f1, x4.2.1), (0, b2, f2, s2), (3, b3, f3, x4.2.2)]) (h := h) [(1, (8, b1, f1, x4.2.1))] ho ⟨rfl, trivial⟩).1 (fun x => (xovs (L := [(4, b0, f0, s0), (8, b1, f1, x4.2.1), (0, b2, f2, s2), (3, b3, f3, x4.2.2)]) (h := h) [(1, (8, b1, f1, x.2))] ho ⟨rfl, trivial⟩).1) (fun x hx => pX8_pass_ok (h := xw [(4, b0, f0, s0), (8, b1, f1, x4.2.1), (0, b2, f2, s2), (3, b3, f3, x4.2.2)] h) (f0 := f1) (xok_sub ho [1] rfl (by decide)) x4.2.1 (14 : Int32) x hx) rfl (fun x5 _ => ?_)
          refine s_if_eqB (tgt := 150) (pc := 127) dX4_readBody_127 (by decide) (fun _ => ?_) (fun _ => ?_)
          · refine s_aload_n (pc := 130) 0 dX4_readBody_130 rfl ?_
            refine s_iload_n (pc := 131) 1 dX4_readBody_131 rfl ?_
            refine x_callV (M := MX4_readBody) (L := [(4, b0, f0, s0), (8, b1, f1, x5.2), (0, b2, f2, s2), (3, b3, f3, x4.2.2)]) (h := h) (j := 0) (As := [.int a0]) (st := []) (A := fun (x : Bool × RS × RS) => some (.int (b2i x.1))) (Lc := [(4, b0, f0, s0), (8, b1, f1, x5.2), (0, b2, f2, s2), (3, b3, f3, x4.2.2)]) (Lr := fun (x : Bool × RS × RS) => [(4, b0, f0, s0), (8, b1, f1, x.2.1), (0, b2, f2, s2), (3, b3, f3, x.2.2)]) (L2 := fun (x : Bool × RS × RS) => [(4, b0, f0, s0), (8, b1, f1, x.2.1), (0, b2, f2, s2), (3, b3, f3, x.2.2)]) cv_X4_92 (by decide) (pc := 132) dX4_readBody_132 ho rfl xc0_4 rfl rfl (Nat.le_of_ble_eq_true rfl) (xovs (L := [(4, b0, f0, s0), (8, b1, f1, x5.2), (0, b2, f2, s2), (3, b3, f3, x4.2.2)]) (h := h) [(0, (4, b0, f0, s0)), (1, (8, b1, f1, x5.2)), (2, (0, b2, f2, s2)), (3, (3, b3, f3, x4.2.2))] ho ⟨rfl, rfl, rfl, rfl, trivial⟩).1 (fun x => (xovs (L := [(4, b0, f0, s0), (8, b1, f1, x5.2), (0, b2, f2, s2), (3, b3, f3, x4.2.2)]) (h := h) [(0, (4, b0, f0, s0)), (1, (8, b1, f1, x.2.1)), (2, (0, b2, f2, s2)), (3, (3, b3, f3, x.2.2))] ho ⟨rfl, rfl, rfl, rfl, trivial⟩).1) (fun x hx => pX4_readTarget_ok (h := xw [(4, b0, f0, s0), (8, b1, f1, x5.2), (0, b2, f2, s2), (3, b3, f3, x4.2.2)] h) (f0 := f0) (f1 := f1) (f2 := f2) (f3 := f3) (xok_sub ho [0, 1, 2, 3] rfl (by decide)) hq_0_0 hq_0_1 hq_0_2 s0 x5.2 s2 x4.2.2 a0 x hx) rfl (fun x6 _ => ?_)
            refine s_if_eqB (tgt := 150) (pc := 135) dX4_readBody_135 (by decide) (fun _ => ?_) (fun _ => ?_)
            · refine s_aload_n (pc := 138) 0 dX4_readBody_138 rfl ?_
              refine s_iload_n (pc := 139) 1 dX4_readBody_139 rfl ?_
              refine x_callV (M := MX4_readBody) (L := [(4, b0, f0, s0), (8, b1, f1, x6.2.1), (0, b2, f2, s2), (3, b3, f3, x6.2.2)]) (h := h) (j := 0) (As := [.int a0]) (st := []) (A := fun (x : Bool × RS × RS) => some (.int (b2i x.1))) (Lc := [(4, b0, f0, s0), (8, b1, f1, x6.2.1), (0, b2, f2, s2), (3, b3, f3, x6.2.2)]) (Lr := fun (x : Bool × RS × RS) => [(4, b0, f0, s0), (8, b1, f1, x.2.1), (0, b2, f2, s2), (3, b3, f3, x.2.2)]) (L2 := fun (x : Bool × RS × RS) => [(4, b0, f0, s0), (8, b1, f1, x.2.1), (0, b2, f2, s2), (3, b3, f3, x.2.2)]) cv_X4_95 (by decide) (pc := 140) dX4_readBody_140 ho rfl xc0_4 rfl rfl (Nat.le_of_ble_eq_true rfl) (xovs (L := [(4, b0, f0, s0), (8, b1, f1, x6.2.1), (0, b2, f2, s2), (3, b3, f3, x6.2.2)]) (h := h) [(0, (4, b0, f0, s0)), (1, (8, b1, f1, x6.2.1)), (2, (0, b2, f2, s2)), (3, (3, b3, f3, x6.2.2))] ho ⟨rfl, rfl, rfl, rfl, trivial⟩).1 (fun x => (xovs (L := [(4, b0, f0, s0), (8, b1, f1, x6.2.1), (0, b2, f2, s2), (3, b3, f3, x6.2.2)]) (h := h) [(0, (4, b0, f0, s0)), (1, (8, b1, f1, x.2.1)), (2, (0, b2, f2, s2)), (3, (3, b3, f3, x.2.2))] ho ⟨rfl, rfl, rfl, rfl, trivial⟩).1) (fun x hx => pX4_readDelay_ok (h := xw [(4, b0, f0, s0), (8, b1, f1, x6.2.1), (0, b2, f2, s2), (3, b3, f3, x6.2.2)] h) (f0 := f0) (f1 := f1) (f2 := f2) (f3 := f3) (xok_sub ho [0, 1, 2, 3] rfl (by decide)) hq_0_0 hq_0_1 hq_0_2 s0 x6.2.1 s2 x6.2.2 a0 x hx) rfl (fun x7 _ => ?_)
              refine s_if_eqB (tgt := 150) (pc := 143) dX4_readBody_143 (by decide) (fun _ => ?_) (fun _ => ?_)
              · refine s_iconst (v := 1) (pc := 146) dX4_readBody_146 (by decide) ?_
                refine s_goto (tgt := 151) (pc := 147) dX4_readBody_147 (by decide) ?_
                exact s_zretB (b := true) (pc := 151) dX4_readBody_151 rfl (fun _ _ q => q)
              · refine s_iconst (v := 0) (pc := 150) dX4_readBody_150 (by decide) ?_
                exact s_zretB (b := false) (pc := 151) dX4_readBody_151 rfl (fun _ _ q => q)
            · refine s_iconst (v := 0) (pc := 150) dX4_readBody_150 (by decide) ?_
              exact s_zretB (b := false) (pc := 151) dX4_readBody_151 rfl (fun _ _ q => q)
          · refine s_iconst (v := 0) (pc := 150) dX4_readBody_150 (by decide) ?_
            exact s_zretB (b := false) (pc := 151) dX4_readBody_151 rfl (fun _ _ q => q)
        · refine s_iconst (v := 0) (pc := 150) dX4_readBody_150 (by decide) ?_
          exact s_zretB (b := false) (pc := 151) dX4_readBody_151 rfl (fun _ _ q => q)
      · refine s_case (c := a1 = 14) (fun c0 => ?_) (fun n14 => ?_)
        · refine s_tabIn (tgt := 176) (off := 175) (pc := 1) dX4_readBody_1 (by rw [c0]; decide) (by rw [c0]; decide) (by rw [c0]; rfl) (by decide) ?_
          refine s_iconst (v := 1) (pc := 176) dX4_readBody_176 (by decide) ?_
          exact s_zretB (b := true) (pc := 177) dX4_readBody_177 rfl (fun _ _ q => q)
        · refine s_case (c := a1 = 15) (fun c0 => ?_) (fun n15 => ?_)
          · refine s_tabIn (tgt := 176) (off := 175) (pc := 1) dX4_readBody_1 (by rw [c0]; decide) (by rw [c0]; decide) (by rw [c0]; rfl) (by decide) ?_
            refine s_iconst (v := 1) (pc := 176) dX4_readBody_176 (by decide) ?_
            exact s_zretB (b := true) (pc := 177) dX4_readBody_177 rfl (fun _ _ q => q)
          · refine s_case (c := a1 = 16) (fun c0 => ?_) (fun n16 => ?_)
            · refine s_tabIn (tgt := 176) (off := 175) (pc := 1) dX4_readBody_1 (by rw [c0]; decide) (by rw [c0]; decide) (by rw [c0]; rfl) (by decide) ?_
              refine s_iconst (v := 1) (pc := 176) dX4_readBody_176 (by decide) ?_
              exact s_zretB (b := true) (pc := 177) dX4_readBody_177 rfl (fun _ _ q => q)
            · refine s_case (c := a1 = 17) (fun c0 => ?_) (fun n17 => ?_)
              · refine s_tabIn (tgt := 76) (off := 75) (pc := 1) dX4_readBody_1 (by rw [c0]; decide) (by rw [c0]; decide) (by rw [c0]; rfl) (by decide) ?_
                refine s_sub [0, 1] rfl ?_
                exact X4_readBody_j76_ok ho hq_0_0 hq_0_1 hq_0_2 a0 s0 s1 s2 s3
              · refine s_case (c := a1 = 18) (fun c0 => ?_) (fun n18 => ?_)
                · refine s_tabIn (tgt := 76) (off := 75) (pc := 1) dX4_readBody_1 (by rw [c0]; decide) (by rw [c0]; decide) (by rw [c0]; rfl) (by decide) ?_
                  refine s_sub [0, 1] rfl ?_
                  exact X4_readBody_j76_ok ho hq_0_0 hq_0_1 hq_0_2 a0 s0 s1 s2 s3
                · refine s_case (c := a1 = 19) (fun c0 => ?_) (fun n19 => ?_)
                  · refine s_tabIn (tgt := 170) (off := 169) (pc := 1) dX4_readBody_1 (by rw [c0]; decide) (by rw [c0]; decide) (by rw [c0]; rfl) (by decide) ?_
                    refine s_aload_n (pc := 170) 0 dX4_readBody_170 rfl ?_
                    refine s_iload_n (pc := 171) 1 dX4_readBody_171 rfl ?_
                    refine x_callV (M := MX4_readBody) (L := [(4, b0, f0, s0), (8, b1, f1, s1), (0, b2, f2, s2), (3, b3, f3, s3)]) (h := h) (j := 0) (As := [.int a0]) (st := []) (A := fun (x : Bool × RS × RS) => some (.int (b2i x.1))) (Lc := [(4, b0, f0, s0), (8, b1, f1, s1), (0, b2, f2, s2), (3, b3, f3, s3)]) (Lr := fun (x : Bool × RS × RS) => [(4, b0, f0, s0), (8, b1, f1, x.2.1), (0, b2, f2, s2), (3, b3, f3, x.2.2)]) (L2 := fun (x : Bool × RS × RS) => [(4, b0, f0, s0), (8, b1, f1, x.2.1), (0, b2, f2, s2), (3, b3, f3, x.2.2)]) cv_X4_102 (by decide) (pc := 172) dX4_readBody_172 ho rfl xc0_4 rfl rfl (Nat.le_of_ble_eq_true rfl) (xovs (L := [(4, b0, f0, s0), (8, b1, f1, s1), (0, b2, f2, s2), (3, b3, f3, s3)]) (h := h) [(0, (4, b0, f0, s0)), (1, (8, b1, f1, s1)), (2, (0, b2, f2, s2)), (3, (3, b3, f3, s3))] ho ⟨rfl, rfl, rfl, rfl, trivial⟩).1 (fun x => (xovs (L := [(4, b0, f0, s0), (8, b1, f1, s1), (0, b2, f2, s2), (3, b3, f3, s3)]) (h := h) [(0, (4, b0, f0, s0)), (1, (8, b1, f1, x.2.1)), (2, (0, b2, f2, s2)), (3, (3, b3, f3, x.2.2))] ho ⟨rfl, rfl, rfl, rfl, trivial⟩).1) (fun x hx => pX4_readTest_ok (h := xw [(4, b0, f0, s0), (8, b1, f1, s1), (0, b2, f2, s2), (3, b3, f3, s3)] h) (f0 := f0) (f1 := f1) (f2 := f2) (f3 := f3) (xok_sub ho [0, 1, 2, 3] rfl (by decide)) hq_0_0 hq_0_1 hq_0_2 s0 s1 s2 s3 a0 x hx) rfl (fun x8 _ => ?_)
                    exact s_zretB (b := x8.1) (pc := 175) dX4_readBody_175 rfl (fun _ _ q => q)
                  · refine s_case (c := a1 = 20) (fun c0 => ?_) (fun n20 => ?_)
                    · refine s_tabIn (tgt := 176) (off := 175) (pc := 1) dX4_readBody_1 (by rw [c0]; decide) (by rw [c0]; decide) (by rw [c0]; rfl) (by decide) ?_
                      refine s_iconst (v := 1) (pc := 176) dX4_readBody_176 (by decide) ?_
                      exact s_zretB (b := true) (pc := 177) dX4_readBody_177 rfl (fun _ _ q => q)
                    · refine s_case (c := a1 = 21) (fun c0 => ?_) (fun n21 => ?_)
                      · refine s_tabIn (tgt := 176) (off := 175) (pc := 1) dX4_readBody_1 (by rw [c0]; decide) (by rw [c0]; decide) (by rw [c0]; rfl) (by decide) ?_
                        refine s_iconst (v := 1) (pc := 176) dX4_readBody_176 (by decide) ?_
                        exact s_zretB (b := true) (pc := 177) dX4_readBody_177 rfl (fun _ _ q => q)
                      · refine s_case (c := a1 = 22) (fun c0 => ?_) (fun n22 => ?_)
                        · refine s_tabIn (tgt := 176) (off := 175) (pc := 1) dX4_readBody_1 (by rw [c0]; decide) (by rw [c0]; decide) (by rw [c0]; rfl) (by decide) ?_
                          refine s_iconst (v := 1) (pc := 176) dX4_readBody_176 (by decide) ?_
                          exact s_zretB (b := true) (pc := 177) dX4_readBody_177 rfl (fun _ _ q => q)
                        · refine s_case (c := a1 = 23) (fun c0 => ?_) (fun n23 => ?_)
                          · refine s_tabIn (tgt := 161) (off := 160) (pc := 1) dX4_readBody_1 (by rw [c0]; decide) (by rw [c0]; decide) (by rw [c0]; rfl) (by decide) ?_
                            refine s_aload_n (pc := 161) 0 dX4_readBody_161 rfl ?_
                            refine s_iload_n (pc := 162) 1 dX4_readBody_162 rfl ?_
                            refine s_iconst (v := 0) (pc := 163) dX4_readBody_163 (by decide) ?_
                            refine s_bipush (v := 16) (pc := 164) dX4_readBody_164 (by decide) ?_
                            refine x_callV (M := MX4_readBody) (L := [(4, b0, f0, s0), (8, b1, f1, s1), (0, b2, f2, s2), (3, b3, f3, s3)]) (h := h) (j := 0) (As := [.int a0, .int 0, .int 16]) (st := []) (A := fun (x : Bool × RS × RS) => some (.int (b2i x.1))) (Lc := [(4, b0, f0, s0), (8, b1, f1, s1), (0, b2, f2, s2), (3, b3, f3, s3)]) (Lr := fun (x : Bool × RS × RS) => [(4, b0, f0, s0), (8, b1, f1, x.2.1), (0, b2, f2, s2), (3, b3, f3, x.2.2)]) (L2 := fun (x : Bool × RS × RS) => [(4, b0, f0, s0), (8, b1, f1, x.2.1), (0, b2, f2, s2), (3, b3, f3, x.2.2)]) cv_X4_98 (by decide) (pc := 166) dX4_readBody_166 ho rfl xc0_4 rfl rfl (Nat.le_of_ble_eq_true rfl) (xovs (L := [(4, b0, f0, s0), (8, b1, f1, s1), (0, b2, f2, s2), (3, b3, f3, s3)]) (h := h) [(0, (4, b0, f0, s0)), (1, (8, b1, f1, s1)), (2, (0, b2, f2, s2)), (3, (3, b3, f3, s3))] ho ⟨rfl, rfl, rfl, rfl, trivial⟩).1 (fun x => (xovs (L := [(4, b0, f0, s0), (8, b1, f1, s1), (0, b2, f2, s2), (3, b3, f3, s3)]) (h := h) [(0, (4, b0, f0, s0)), (1, (8, b1, f1, x.2.1)), (2, (0, b2, f2, s2)), (3, (3, b3, f3, x.2.2))] ho ⟨rfl, rfl, rfl, rfl, trivial⟩).1) (fun x hx => pX4_readNumber_ok (h := xw [(4, b0, f0, s0), (8, b1, f1, s1), (0, b2, f2, s2), (3, b3, f3, s3)] h) (f0 := f0) (f1 := f1) (f2 := f2) (f3 := f3) (xok_sub ho [0, 1, 2, 3] rfl (by decide)) hq_0_0 hq_0_1 hq_0_2 s0 s1 s2 s3 a0 (0 : Int32) (16 : Int32) x hx) rfl (fun x9 _ => ?_)
                            exact s_zretB (b := x9.1) (pc := 169) dX4_readBody_169 rfl (fun _ _ q => q)
                          · refine s_case (c := a1 = 24) (fun c0 => ?_) (fun n24 => ?_)
                            · refine s_tabIn (tgt := 152) (off := 151) (pc := 1) dX4_readBody_1 (by rw [c0]; decide) (by rw [c0]; decide) (by rw [c0]; rfl) (by decide) ?_
                              refine s_sub [0, 1] rfl ?_
                              exact X4_readBody_j152_ok ho hq_0_0 hq_0_1 hq_0_2 a0 s0 s1 s2 s3
                            · refine s_case (c := a1 = 25) (fun c0 => ?_) (fun n25 => ?_)
                              · refine s_tabIn (tgt := 152) (off := 151) (pc := 1) dX4_readBody_1 (by rw [c0]; decide) (by rw [c0]; decide) (by rw [c0]; rfl) (by decide) ?_
                                refine s_sub [0, 1] rfl ?_
                                exact X4_readBody_j152_ok ho hq_0_0 hq_0_1 hq_0_2 a0 s0 s1 s2 s3
                              · refine s_tabOut (tgt := 176) (pc := 1) dX4_readBody_1 (sw_out (fun i h1 h2 => by
                                  have hi : i = 11 ∨ i = 12 ∨ i = 13 ∨ i = 14 ∨ i = 15 ∨ i = 16 ∨ i = 17 ∨ i = 18 ∨ i = 19 ∨ i = 20 ∨ i = 21 ∨ i = 22 ∨ i = 23 ∨ i = 24 ∨ i = 25 := by omega
                                  rcases hi with rfl | rfl | rfl | rfl | rfl | rfl | rfl | rfl | rfl | rfl | rfl | rfl | rfl | rfl | rfl
                                  · exact fun q => n11 (q.trans (by decide))
                                  · exact fun q => n12 (q.trans (by decide))
                                  · exact fun q => n13 (q.trans (by decide))
                                  · exact fun q => n14 (q.trans (by decide))
                                  · exact fun q => n15 (q.trans (by decide))
                                  · exact fun q => n16 (q.trans (by decide))
                                  · exact fun q => n17 (q.trans (by decide))
                                  · exact fun q => n18 (q.trans (by decide))
                                  · exact fun q => n19 (q.trans (by decide))
                                  · exact fun q => n20 (q.trans (by decide))
                                  · exact fun q => n21 (q.trans (by decide))
                                  · exact fun q => n22 (q.trans (by decide))
                                  · exact fun q => n23 (q.trans (by decide))
                                  · exact fun q => n24 (q.trans (by decide))
                                  · exact fun q => n25 (q.trans (by decide)))) (by decide) ?_
                                refine s_iconst (v := 1) (pc := 176) dX4_readBody_176 (by decide) ?_
                                exact s_zretB (b := true) (pc := 177) dX4_readBody_177 rfl (fun _ _ q => q)
theorem pX4_readBody_ok (ho : xok [(4, b0), (8, b1), (0, b2), (3, b3)] h.2.1) (hq_0_0 : f0 0 = some b1) (hq_0_1 : f0 1 = some b2) (hq_0_2 : f0 2 = some b3) (s0 : RS) (s1 : RS) (s2 : RS) (s3 : RS) (a0 : Int32) (a1 : Int32) : ∀ x, pX4_readBody s0 s1 s2 s3 a0 a1 = some x → aMet l 4 yX4_readBody cX4_readBody 3 (some .boolean) [.ref b0, .int a0, .int a1] (xw [(4, b0, f0, s0), (8, b1, f1, s1), (0, b2, f2, s2), (3, b3, f3, s3)] h) (some (.int (b2i x.1))) (xw [(4, b0, f0, s0), (8, b1, f1, x.2.1), (0, b2, f2, s2), (3, b3, f3, x.2.2)] h) := fun x hx => a_meth (ini := false) (y := yX4_readBody) (by decide +kernel) (fun q => by cases q) (fun _ => Nat.le_of_ble_eq_true rfl) (pX4_readBody_w ho hq_0_0 hq_0_1 hq_0_2 s0 s1 s2 s3 a0 a1) x hx _ _ ⟨rfl, rfl⟩
end
section
variable {l : Launch} {n0 S0 : Nat} {h : aH} {b0 b1 b2 b3 : Nat} {f0 f1 f2 f3 : Nat → Option Nat}
abbrev MX4_readLog : aM := (cX4_readLog, RX4, 6, (some (.object "SwapBook$Log")), false)
def X4_readLog_x12 (l : Launch) (n0 S0 : Nat) (h : aH) (b0 : Nat) (b1 : Nat) (b2 : Nat) (b3 : Nat) (f0 : Nat → Option Nat) (f1 : Nat → Option Nat) (f2 : Nat → Option Nat) (f3 : Nat → Option Nat) (s2 : RS) : (Bool × RS × RS × RS) → Option Value → aH → Prop := fun (x : Bool × RS × RS × RS) r h' => aEv l 5 MX4_readLog n0 S0 115 [(0, .ref b0), (2, .int (b2i x.1))] [] (xw [(4, b0, f0, x.2.1), (8, b1, f1, x.2.2.1), (0, b2, f2, s2), (3, b3, f3, x.2.2.2)] h) r h'
def X4_readLog_j108 (v3 : Int32) (k0 : Bool) (s0 : RS) (s1 : RS) (s2 : RS) (s3 : RS) : Option ((Bool × Int32 × RS × RS × RS) ⊕ (Bool × RS × RS × RS)) :=
  thn (v3 + 1) fun x6 =>
  some (.inl (k0, x6, s0, s1, s3))
theorem X4_readLog_j108_ok (ho : xok [(4, b0), (8, b1), (0, b2), (3, b3)] h.2.1) (hq_0_0 : f0 0 = some b1) (hq_0_1 : f0 1 = some b2) (hq_0_2 : f0 2 = some b3) (v3 : Int32) (k0 : Bool) (s0 : RS) (s1 : RS) (s2 : RS) (s3 : RS) : aS l 5 MX4_readLog n0 S0 (a_LΦ (X4_readLog_x12 l n0 S0 h b0 b1 b2 b3 f0 f1 f2 f3 s2) l 5 MX4_readLog n0 S0 12 (fun (q : Bool × Int32 × RS × RS × RS) => [(0, .ref b0), (2, .int (b2i q.1)), (3, .int q.2.1)]) (fun _ => []) (fun (q : Bool × Int32 × RS × RS × RS) => xw [(4, b0, f0, q.2.2.1), (8, b1, f1, q.2.2.2.1), (0, b2, f2, s2), (3, b3, f3, q.2.2.2.2)] h)) 108 [(0, .ref b0), (3, .int v3)] [.int (b2i k0)] (xw [(4, b0, f0, s0), (8, b1, f1, s1), (0, b2, f2, s2), (3, b3, f3, s3)] h) (X4_readLog_j108 v3 k0 s0 s1 s2 s3) := by
  unfold X4_readLog_j108
  refine s_istore_n (lv' := [(2, .int (b2i k0)), (0, .ref b0), (3, .int v3)]) (pc := 108) dX4_readLog_108 (by decide) rfl ?_
  refine s_iincT (pc := 109) 2 (lv' := fun x6 => [(3, .int x6), (2, .int (b2i k0)), (0, .ref b0)]) dX4_readLog_109 rfl rfl (by decide) (fun _ => rfl) (fun x6 => ?_)
  refine s_goto (tgt := 12) (pc := 112) dX4_readLog_112 (by decide) ?_
  refine s_sub [2, 1, 0] rfl ?_
  exact s_ev (fun _ _ q => q)
def X4_readLog_j107 (v3 : Int32) (s0 : RS) (s1 : RS) (s2 : RS) (s3 : RS) : Option ((Bool × Int32 × RS × RS × RS) ⊕ (Bool × RS × RS × RS)) :=
  X4_readLog_j108 v3 false s0 s1 s2 s3
theorem X4_readLog_j107_ok (ho : xok [(4, b0), (8, b1), (0, b2), (3, b3)] h.2.1) (hq_0_0 : f0 0 = some b1) (hq_0_1 : f0 1 = some b2) (hq_0_2 : f0 2 = some b3) (v3 : Int32) (s0 : RS) (s1 : RS) (s2 : RS) (s3 : RS) : aS l 5 MX4_readLog n0 S0 (a_LΦ (X4_readLog_x12 l n0 S0 h b0 b1 b2 b3 f0 f1 f2 f3 s2) l 5 MX4_readLog n0 S0 12 (fun (q : Bool × Int32 × RS × RS × RS) => [(0, .ref b0), (2, .int (b2i q.1)), (3, .int q.2.1)]) (fun _ => []) (fun (q : Bool × Int32 × RS × RS × RS) => xw [(4, b0, f0, q.2.2.1), (8, b1, f1, q.2.2.2.1), (0, b2, f2, s2), (3, b3, f3, q.2.2.2.2)] h)) 107 [(0, .ref b0), (3, .int v3)] [] (xw [(4, b0, f0, s0), (8, b1, f1, s1), (0, b2, f2, s2), (3, b3, f3, s3)] h) (X4_readLog_j107 v3 s0 s1 s2 s3) := by
  unfold X4_readLog_j107
  refine s_iconst (v := 0) (pc := 107) dX4_readLog_107 (by decide) ?_
  exact X4_readLog_j108_ok ho hq_0_0 hq_0_1 hq_0_2 v3 false s0 s1 s2 s3
def X4_readLog_j75 (v3 : Int32) (v4 : Int32) (v5 : Int32) (k0 : Bool) (s0 : RS) (s1 : RS) (s2 : RS) (s3 : RS) : Option ((Bool × Int32 × RS × RS × RS) ⊕ (Bool × RS × RS × RS)) :=
  if k0 = true then
    (pX4_readBody s0 s1 s2 s3 v4 v5).bind fun x7 =>
    if x7.1 = true then
      (pX8_pass x7.2.1 (31 : Int32)).bind fun x8 =>
      if x8.1 = true then
        X4_readLog_j108 v3 true s0 x8.2 s2 x7.2.2
      else
        X4_readLog_j107 v3 s0 x8.2 s2 x7.2.2
    else
      X4_readLog_j107 v3 s0 x7.2.1 s2 x7.2.2
  else
    X4_readLog_j107 v3 s0 s1 s2 s3
theorem X4_readLog_j75_ok (ho : xok [(4, b0), (8, b1), (0, b2), (3, b3)] h.2.1) (hq_0_0 : f0 0 = some b1) (hq_0_1 : f0 1 = some b2) (hq_0_2 : f0 2 = some b3) (v3 : Int32) (v4 : Int32) (v5 : Int32) (k0 : Bool) (s0 : RS) (s1 : RS) (s2 : RS) (s3 : RS) : aS l 5 MX4_readLog n0 S0 (a_LΦ (X4_readLog_x12 l n0 S0 h b0 b1 b2 b3 f0 f1 f2 f3 s2) l 5 MX4_readLog n0 S0 12 (fun (q : Bool × Int32 × RS × RS × RS) => [(0, .ref b0), (2, .int (b2i q.1)), (3, .int q.2.1)]) (fun _ => []) (fun (q : Bool × Int32 × RS × RS × RS) => xw [(4, b0, f0, q.2.2.1), (8, b1, f1, q.2.2.2.1), (0, b2, f2, s2), (3, b3, f3, q.2.2.2.2)] h)) 75 [(0, .ref b0), (3, .int v3), (4, .int v4), (5, .int v5)] [.int (b2i k0)] (xw [(4, b0, f0, s0), (8, b1, f1, s1), (0, b2, f2, s2), (3, b3, f3, s3)] h) (X4_readLog_j75 v3 v4 v5 k0 s0 s1 s2 s3) := by
  unfold X4_readLog_j75
  refine s_istore_n (lv' := [(2, .int (b2i k0)), (0, .ref b0), (3, .int v3), (4, .int v4), (5, .int v5)]) (pc := 75) dX4_readLog_75 (by decide) rfl ?_
  refine s_iload_n (pc := 76) 0 dX4_readLog_76 rfl ?_
  refine s_if_eqB (tgt := 107) (pc := 77) dX4_readLog_77 (by decide) (fun _ => ?_) (fun _ => ?_)
  · refine s_aload_n (pc := 80) 1 dX4_readLog_80 rfl ?_
    refine s_iload (pc := 81) 3 dX4_readLog_81 rfl ?_
    refine s_iload (pc := 83) 4 dX4_readLog_83 rfl ?_
    refine x_callV (M := MX4_readLog) (L := [(4, b0, f0, s0), (8, b1, f1, s1), (0, b2, f2, s2), (3, b3, f3, s3)]) (h := h) (j := 0) (As := [.int v4, .int v5]) (st := []) (A := fun (x : Bool × RS × RS) => some (.int (b2i x.1))) (Lc := [(4, b0, f0, s0), (8, b1, f1, s1), (0, b2, f2, s2), (3, b3, f3, s3)]) (Lr := fun (x : Bool × RS × RS) => [(4, b0, f0, s0), (8, b1, f1, x.2.1), (0, b2, f2, s2), (3, b3, f3, x.2.2)]) (L2 := fun (x : Bool × RS × RS) => [(4, b0, f0, s0), (8, b1, f1, x.2.1), (0, b2, f2, s2), (3, b3, f3, x.2.2)]) cv_X4_59 (by decide) (pc := 85) dX4_readLog_85 ho rfl xc0_4 rfl rfl (Nat.le_of_ble_eq_true rfl) (xovs (L := [(4, b0, f0, s0), (8, b1, f1, s1), (0, b2, f2, s2), (3, b3, f3, s3)]) (h := h) [(0, (4, b0, f0, s0)), (1, (8, b1, f1, s1)), (2, (0, b2, f2, s2)), (3, (3, b3, f3, s3))] ho ⟨rfl, rfl, rfl, rfl, trivial⟩).1 (fun x => (xovs (L := [(4, b0, f0, s0), (8, b1, f1, s1), (0, b2, f2, s2), (3, b3, f3, s3)]) (h := h) [(0, (4, b0, f0, s0)), (1, (8, b1, f1, x.2.1)), (2, (0, b2, f2, s2)), (3, (3, b3, f3, x.2.2))] ho ⟨rfl, rfl, rfl, rfl, trivial⟩).1) (fun x hx => pX4_readBody_ok (h := xw [(4, b0, f0, s0), (8, b1, f1, s1), (0, b2, f2, s2), (3, b3, f3, s3)] h) (f0 := f0) (f1 := f1) (f2 := f2) (f3 := f3) (xok_sub ho [0, 1, 2, 3] rfl (by decide)) hq_0_0 hq_0_1 hq_0_2 s0 s1 s2 s3 v4 v5 x hx) rfl (fun x7 _ => ?_)
    refine s_if_eqB (tgt := 107) (pc := 88) dX4_readLog_88 (by decide) (fun _ => ?_) (fun _ => ?_)
    · refine s_aload_n (pc := 91) 1 dX4_readLog_91 rfl ?_
      refine xg_X4_26 0 ho rfl (pc := 92) dX4_readLog_92 rfl hq_0_0 ?_
      refine s_bipush (v := 31) (pc := 95) dX4_readLog_95 (by decide) ?_
      refine x_callV (M := MX4_readLog) (L := [(4, b0, f0, s0), (8, b1, f1, x7.2.1), (0, b2, f2, s2), (3, b3, f3, x7.2.2)]) (h := h) (j := 1) (As := [.int 31]) (st := []) (A := fun (x : Bool × RS) => some (.int (b2i x.1))) (Lc := [(8, b1, f1, x7.2.1)]) (Lr := fun (x : Bool × RS) => [(8, b1, f1, x.2)]) (L2 := fun (x : Bool × RS) => [(4, b0, f0, s0), (8, b1, f1, x.2), (0, b2, f2, s2), (3, b3, f3, x7.2.2)]) cv_X4_62 (by decide) (pc := 97) dX4_readLog_97 ho rfl xc0_8 rfl rfl (Nat.le_of_ble_eq_true rfl) (xovs (L := [(4, b0, f0, s0), (8, b1, f1, x7.2.1), (0, b2, f2, s2), (3, b3, f3, x7.2.2)]) (h := h) [(1, (8, b1, f1, x7.2.1))] ho ⟨rfl, trivial⟩).1 (fun x => (xovs (L := [(4, b0, f0, s0), (8, b1, f1, x7.2.1), (0, b2, f2, s2), (3, b3, f3, x7.2.2)]) (h := h) [(1, (8, b1, f1, x.2))] ho ⟨rfl, trivial⟩).1) (fun x hx => pX8_pass_ok (h := xw [(4, b0, f0, s0), (8, b1, f1, x7.2.1), (0, b2, f2, s2), (3, b3, f3, x7.2.2)] h) (f0 := f1) (xok_sub ho [1] rfl (by decide)) x7.2.1 (31 : Int32) x hx) rfl (fun x8 _ => ?_)
      refine s_if_eqB (tgt := 107) (pc := 100) dX4_readLog_100 (by decide) (fun _ => ?_) (fun _ => ?_)
      · refine s_iconst (v := 1) (pc := 103) dX4_readLog_103 (by decide) ?_
        refine s_goto (tgt := 108) (pc := 104) dX4_readLog_104 (by decide) ?_
        refine s_sub [1, 2] rfl ?_
        exact X4_readLog_j108_ok ho hq_0_0 hq_0_1 hq_0_2 v3 true s0 x8.2 s2 x7.2.2
      · refine s_sub [1, 2] rfl ?_
        exact X4_readLog_j107_ok ho hq_0_0 hq_0_1 hq_0_2 v3 s0 x8.2 s2 x7.2.2
    · refine s_sub [1, 2] rfl ?_
      exact X4_readLog_j107_ok ho hq_0_0 hq_0_1 hq_0_2 v3 s0 x7.2.1 s2 x7.2.2
  · refine s_sub [1, 2] rfl ?_
    exact X4_readLog_j107_ok ho hq_0_0 hq_0_1 hq_0_2 v3 s0 s1 s2 s3
def X4_readLog_b12 (v2 : Bool) (v3 : Int32) (s0 : RS) (s1 : RS) (s2 : RS) (s3 : RS) : Option ((Bool × Int32 × RS × RS × RS) ⊕ (Bool × RS × RS × RS)) :=
  if (300 : Int32) < v3 then
    some (.inr (v2, s0, s1, s3))
  else
    if v2 = true then
      (pX8_isEnd s1).bind fun x2 =>
      if x2 = true then
        some (.inr (v2, s0, s1, s3))
      else
        thn (s3.1 1) fun x3 =>
        (pX8_kindHere s1).bind fun x4 =>
        if x4 = (26 : Int32) then
          (pX4_beginEnd s0 s1 s2 s3 x3).bind fun x9 =>
          X4_readLog_j75 v3 x3 x4 x9.1 x9.2.1 x9.2.2.1 s2 x9.2.2.2
        else
          (pX4_beginStep s0 s1 s2 s3 x3 x4).bind fun x5 =>
          X4_readLog_j75 v3 x3 x4 x5.1 x5.2.1 x5.2.2.1 s2 x5.2.2.2
    else
      some (.inr (v2, s0, s1, s3))
theorem X4_readLog_b12_ok (ho : xok [(4, b0), (8, b1), (0, b2), (3, b3)] h.2.1) (hq_0_0 : f0 0 = some b1) (hq_0_1 : f0 1 = some b2) (hq_0_2 : f0 2 = some b3) (v2 : Bool) (v3 : Int32) (s0 : RS) (s1 : RS) (s2 : RS) (s3 : RS) : aS l 5 MX4_readLog n0 S0 (a_LΦ (X4_readLog_x12 l n0 S0 h b0 b1 b2 b3 f0 f1 f2 f3 s2) l 5 MX4_readLog n0 S0 12 (fun (q : Bool × Int32 × RS × RS × RS) => [(0, .ref b0), (2, .int (b2i q.1)), (3, .int q.2.1)]) (fun _ => []) (fun (q : Bool × Int32 × RS × RS × RS) => xw [(4, b0, f0, q.2.2.1), (8, b1, f1, q.2.2.2.1), (0, b2, f2, s2), (3, b3, f3, q.2.2.2.2)] h)) 12 [(0, .ref b0), (2, .int (b2i v2)), (3, .int v3)] [] (xw [(4, b0, f0, s0), (8, b1, f1, s1), (0, b2, f2, s2), (3, b3, f3, s3)] h) (X4_readLog_b12 v2 v3 s0 s1 s2 s3) := by
  unfold X4_readLog_b12
  refine s_iload_n (pc := 12) 2 dX4_readLog_12 rfl ?_
  refine s_sipush (v := 300) (pc := 13) dX4_readLog_13 (by decide) ?_
  refine s_icmp_gt (tgt := 115) (pc := 16) dX4_readLog_16 (by decide) (fun _ => ?_) (fun _ => ?_)
  · refine s_sub [0, 1] rfl ?_
    exact s_ev (fun _ _ q => q)
  · refine s_iload_n (pc := 19) 1 dX4_readLog_19 rfl ?_
    refine s_if_eqB (tgt := 115) (pc := 20) dX4_readLog_20 (by decide) (fun _ => ?_) (fun _ => ?_)
    · refine s_aload_n (pc := 23) 0 dX4_readLog_23 rfl ?_
      refine xg_X4_26 0 ho rfl (pc := 24) dX4_readLog_24 rfl hq_0_0 ?_
      refine x_callV (M := MX4_readLog) (L := [(4, b0, f0, s0), (8, b1, f1, s1), (0, b2, f2, s2), (3, b3, f3, s3)]) (h := h) (j := 1) (As := []) (st := []) (A := fun (x : Bool) => some (.int (b2i x))) (Lc := [(8, b1, f1, s1)]) (Lr := fun (x : Bool) => [(8, b1, f1, s1)]) (L2 := fun (x : Bool) => [(4, b0, f0, s0), (8, b1, f1, s1), (0, b2, f2, s2), (3, b3, f3, s3)]) cv_X4_40 (by decide) (pc := 27) dX4_readLog_27 ho rfl xc0_8 rfl rfl (Nat.le_of_ble_eq_true rfl) (xovs (L := [(4, b0, f0, s0), (8, b1, f1, s1), (0, b2, f2, s2), (3, b3, f3, s3)]) (h := h) [(1, (8, b1, f1, s1))] ho ⟨rfl, trivial⟩).1 (fun x => (xovs (L := [(4, b0, f0, s0), (8, b1, f1, s1), (0, b2, f2, s2), (3, b3, f3, s3)]) (h := h) [(1, (8, b1, f1, s1))] ho ⟨rfl, trivial⟩).1) (fun x hx => pX8_isEnd_ok (h := xw [(4, b0, f0, s0), (8, b1, f1, s1), (0, b2, f2, s2), (3, b3, f3, s3)] h) (f0 := f1) (xok_sub ho [1] rfl (by decide)) s1 x hx) rfl (fun x2 _ => ?_)
      refine s_if_neB (tgt := 115) (pc := 30) dX4_readLog_30 (by decide) (fun _ => ?_) (fun _ => ?_)
      · refine s_sub [0, 1] rfl ?_
        exact s_ev (fun _ _ q => q)
      · refine s_aload_n (pc := 33) 0 dX4_readLog_33 rfl ?_
        refine xg_X4_12 0 ho rfl (pc := 34) dX4_readLog_34 rfl hq_0_2 ?_
        refine xg_X4_44 3 ho rfl (pc := 37) dX4_readLog_37 rfl ?_
        refine s_istoreT (lv' := fun x3 => [(4, .int x3), (0, .ref b0), (2, .int (b2i v2)), (3, .int v3)]) (pc := 40) dX4_readLog_40 (by decide) (fun _ => rfl) (fun x3 => ?_)
        refine s_aload_n (pc := 42) 1 dX4_readLog_42 rfl ?_
        refine xg_X4_26 0 ho rfl (pc := 43) dX4_readLog_43 rfl hq_0_0 ?_
        refine x_callV (M := MX4_readLog) (L := [(4, b0, f0, s0), (8, b1, f1, s1), (0, b2, f2, s2), (3, b3, f3, s3)]) (h := h) (j := 1) (As := []) (st := []) (A := fun (x : Int32) => some (.int x)) (Lc := [(8, b1, f1, s1)]) (Lr := fun (x : Int32) => [(8, b1, f1, s1)]) (L2 := fun (x : Int32) => [(4, b0, f0, s0), (8, b1, f1, s1), (0, b2, f2, s2), (3, b3, f3, s3)]) cv_X4_47 (by decide) (pc := 46) dX4_readLog_46 ho rfl xc0_8 rfl rfl (Nat.le_of_ble_eq_true rfl) (xovs (L := [(4, b0, f0, s0), (8, b1, f1, s1), (0, b2, f2, s2), (3, b3, f3, s3)]) (h := h) [(1, (8, b1, f1, s1))] ho ⟨rfl, trivial⟩).1 (fun x => (xovs (L := [(4, b0, f0, s0), (8, b1, f1, s1), (0, b2, f2, s2), (3, b3, f3, s3)]) (h := h) [(1, (8, b1, f1, s1))] ho ⟨rfl, trivial⟩).1) (fun x hx => pX8_kindHere_ok (h := xw [(4, b0, f0, s0), (8, b1, f1, s1), (0, b2, f2, s2), (3, b3, f3, s3)] h) (f0 := f1) (xok_sub ho [1] rfl (by decide)) s1 x hx) rfl (fun x4 _ => ?_)
        refine s_istore (lv' := [(5, .int x4), (4, .int x3), (0, .ref b0), (2, .int (b2i v2)), (3, .int v3)]) (pc := 49) dX4_readLog_49 (by decide) rfl ?_
        refine s_iload (pc := 51) 0 dX4_readLog_51 rfl ?_
        refine s_bipush (v := 26) (pc := 53) dX4_readLog_53 (by decide) ?_
        refine s_icmp_ne (tgt := 67) (pc := 55) dX4_readLog_55 (by decide) (fun _ => ?_) (fun _ => ?_)
        · refine s_aload_n (pc := 58) 2 dX4_readLog_58 rfl ?_
          refine s_iload (pc := 59) 1 dX4_readLog_59 rfl ?_
          refine x_callV (M := MX4_readLog) (L := [(4, b0, f0, s0), (8, b1, f1, s1), (0, b2, f2, s2), (3, b3, f3, s3)]) (h := h) (j := 0) (As := [.int x3]) (st := []) (A := fun (x : Bool × RS × RS × RS) => some (.int (b2i x.1))) (Lc := [(4, b0, f0, s0), (8, b1, f1, s1), (0, b2, f2, s2), (3, b3, f3, s3)]) (Lr := fun (x : Bool × RS × RS × RS) => [(4, b0, f0, x.2.1), (8, b1, f1, x.2.2.1), (0, b2, f2, s2), (3, b3, f3, x.2.2.2)]) (L2 := fun (x : Bool × RS × RS × RS) => [(4, b0, f0, x.2.1), (8, b1, f1, x.2.2.1), (0, b2, f2, s2), (3, b3, f3, x.2.2.2)]) cv_X4_51 (by decide) (pc := 61) dX4_readLog_61 ho rfl xc0_4 rfl rfl (Nat.le_of_ble_eq_true rfl) (xovs (L := [(4, b0, f0, s0), (8, b1, f1, s1), (0, b2, f2, s2), (3, b3, f3, s3)]) (h := h) [(0, (4, b0, f0, s0)), (1, (8, b1, f1, s1)), (2, (0, b2, f2, s2)), (3, (3, b3, f3, s3))] ho ⟨rfl, rfl, rfl, rfl, trivial⟩).1 (fun x => (xovs (L := [(4, b0, f0, s0), (8, b1, f1, s1), (0, b2, f2, s2), (3, b3, f3, s3)]) (h := h) [(0, (4, b0, f0, x.2.1)), (1, (8, b1, f1, x.2.2.1)), (2, (0, b2, f2, s2)), (3, (3, b3, f3, x.2.2.2))] ho ⟨rfl, rfl, rfl, rfl, trivial⟩).1) (fun x hx => pX4_beginEnd_ok (h := xw [(4, b0, f0, s0), (8, b1, f1, s1), (0, b2, f2, s2), (3, b3, f3, s3)] h) (f0 := f0) (f1 := f1) (f2 := f2) (f3 := f3) (xok_sub ho [0, 1, 2, 3] rfl (by decide)) hq_0_0 hq_0_1 hq_0_2 s0 s1 s2 s3 x3 x hx) rfl (fun x9 _ => ?_)
          refine s_goto (tgt := 75) (pc := 64) dX4_readLog_64 (by decide) ?_
          refine s_sub [2, 4, 1, 0] rfl ?_
          exact X4_readLog_j75_ok ho hq_0_0 hq_0_1 hq_0_2 v3 x3 x4 x9.1 x9.2.1 x9.2.2.1 s2 x9.2.2.2
        · refine s_aload_n (pc := 67) 2 dX4_readLog_67 rfl ?_
          refine s_iload (pc := 68) 1 dX4_readLog_68 rfl ?_
          refine s_iload (pc := 70) 0 dX4_readLog_70 rfl ?_
          refine x_callV (M := MX4_readLog) (L := [(4, b0, f0, s0), (8, b1, f1, s1), (0, b2, f2, s2), (3, b3, f3, s3)]) (h := h) (j := 0) (As := [.int x3, .int x4]) (st := []) (A := fun (x : Bool × RS × RS × RS) => some (.int (b2i x.1))) (Lc := [(4, b0, f0, s0), (8, b1, f1, s1), (0, b2, f2, s2), (3, b3, f3, s3)]) (Lr := fun (x : Bool × RS × RS × RS) => [(4, b0, f0, x.2.1), (8, b1, f1, x.2.2.1), (0, b2, f2, s2), (3, b3, f3, x.2.2.2)]) (L2 := fun (x : Bool × RS × RS × RS) => [(4, b0, f0, x.2.1), (8, b1, f1, x.2.2.1), (0, b2, f2, s2), (3, b3, f3, x.2.2.2)]) cv_X4_55 (by decide) (pc := 72) dX4_readLog_72 ho rfl xc0_4 rfl rfl (Nat.le_of_ble_eq_true rfl) (xovs (L := [(4, b0, f0, s0), (8, b1, f1, s1), (0, b2, f2, s2), (3, b3, f3, s3)]) (h := h) [(0, (4, b0, f0, s0)), (1, (8, b1, f1, s1)), (2, (0, b2, f2, s2)), (3, (3, b3, f3, s3))] ho ⟨rfl, rfl, rfl, rfl, trivial⟩).1 (fun x => (xovs (L := [(4, b0, f0, s0), (8, b1, f1, s1), (0, b2, f2, s2), (3, b3, f3, s3)]) (h := h) [(0, (4, b0, f0, x.2.1)), (1, (8, b1, f1, x.2.2.1)), (2, (0, b2, f2, s2)), (3, (3, b3, f3, x.2.2.2))] ho ⟨rfl, rfl, rfl, rfl, trivial⟩).1) (fun x hx => pX4_beginStep_ok (h := xw [(4, b0, f0, s0), (8, b1, f1, s1), (0, b2, f2, s2), (3, b3, f3, s3)] h) (f0 := f0) (f1 := f1) (f2 := f2) (f3 := f3) (xok_sub ho [0, 1, 2, 3] rfl (by decide)) hq_0_0 hq_0_1 hq_0_2 s0 s1 s2 s3 x3 x4 x hx) rfl (fun x5 _ => ?_)
          refine s_sub [2, 4, 1, 0] rfl ?_
          exact X4_readLog_j75_ok ho hq_0_0 hq_0_1 hq_0_2 v3 x3 x4 x5.1 x5.2.1 x5.2.2.1 s2 x5.2.2.2
    · refine s_sub [0, 1] rfl ?_
      exact s_ev (fun _ _ q => q)
def X4_readLog_j115 (v2 : Bool) (s0 : RS) (s1 : RS) (s2 : RS) (s3 : RS) : Option (RS × RS × RS) :=
  if v2 = true then
    if (s0.1 4) ≤ 0 then
      some (s0, s1, s3)
    else
      (pX8_blameToken s1).bind fun x11 =>
      some (s0, x11.2, s3)
  else
    some (s0, s1, s3)
theorem X4_readLog_j115_ok (ho : xok [(4, b0), (8, b1), (0, b2), (3, b3)] h.2.1) (hq_0_0 : f0 0 = some b1) (hq_0_1 : f0 1 = some b2) (hq_0_2 : f0 2 = some b3) (v2 : Bool) (s0 : RS) (s1 : RS) (s2 : RS) (s3 : RS) : aS l 5 MX4_readLog n0 S0 (oΦ (fun (x : RS × RS × RS) => ((some (.ref b3)), xw [(4, b0, f0, x.1), (8, b1, f1, x.2.1), (0, b2, f2, s2), (3, b3, f3, x.2.2)] h))) 115 [(0, .ref b0), (2, .int (b2i v2))] [] (xw [(4, b0, f0, s0), (8, b1, f1, s1), (0, b2, f2, s2), (3, b3, f3, s3)] h) (X4_readLog_j115 v2 s0 s1 s2 s3) := by
  unfold X4_readLog_j115
  refine s_iload_n (pc := 115) 1 dX4_readLog_115 rfl ?_
  refine s_if_eqB (tgt := 134) (pc := 116) dX4_readLog_116 (by decide) (fun _ => ?_) (fun _ => ?_)
  · refine s_aload_n (pc := 119) 0 dX4_readLog_119 rfl ?_
    refine xg_X4_22 0 ho rfl (pc := 120) dX4_readLog_120 rfl ?_
    refine s_if_le (tgt := 134) (pc := 123) dX4_readLog_123 (by decide) (fun _ => ?_) (fun _ => ?_)
    · refine s_aload_n (pc := 134) 0 dX4_readLog_134 rfl ?_
      refine xg_X4_12 0 ho rfl (pc := 135) dX4_readLog_135 rfl hq_0_2 ?_
      exact s_aret (pc := 138) dX4_readLog_138 rfl (fun _ _ q => q)
    · refine s_aload_n (pc := 126) 0 dX4_readLog_126 rfl ?_
      refine xg_X4_26 0 ho rfl (pc := 127) dX4_readLog_127 rfl hq_0_0 ?_
      refine x_callV (M := MX4_readLog) (L := [(4, b0, f0, s0), (8, b1, f1, s1), (0, b2, f2, s2), (3, b3, f3, s3)]) (h := h) (j := 1) (As := []) (st := []) (A := fun (x : Bool × RS) => some (.int (b2i x.1))) (Lc := [(8, b1, f1, s1)]) (Lr := fun (x : Bool × RS) => [(8, b1, f1, x.2)]) (L2 := fun (x : Bool × RS) => [(4, b0, f0, s0), (8, b1, f1, x.2), (0, b2, f2, s2), (3, b3, f3, s3)]) cv_X4_65 (by decide) (pc := 130) dX4_readLog_130 ho rfl xc0_8 rfl rfl (Nat.le_of_ble_eq_true rfl) (xovs (L := [(4, b0, f0, s0), (8, b1, f1, s1), (0, b2, f2, s2), (3, b3, f3, s3)]) (h := h) [(1, (8, b1, f1, s1))] ho ⟨rfl, trivial⟩).1 (fun x => (xovs (L := [(4, b0, f0, s0), (8, b1, f1, s1), (0, b2, f2, s2), (3, b3, f3, s3)]) (h := h) [(1, (8, b1, f1, x.2))] ho ⟨rfl, trivial⟩).1) (fun x hx => pX8_blameToken_ok (h := xw [(4, b0, f0, s0), (8, b1, f1, s1), (0, b2, f2, s2), (3, b3, f3, s3)] h) (f0 := f1) (xok_sub ho [1] rfl (by decide)) s1 x hx) rfl (fun x11 _ => ?_)
      refine s_pop (pc := 133) dX4_readLog_133 rfl ?_
      refine s_aload_n (pc := 134) 0 dX4_readLog_134 rfl ?_
      refine xg_X4_12 0 ho rfl (pc := 135) dX4_readLog_135 rfl hq_0_2 ?_
      exact s_aret (pc := 138) dX4_readLog_138 rfl (fun _ _ q => q)
  · refine s_aload_n (pc := 134) 0 dX4_readLog_134 rfl ?_
    refine xg_X4_12 0 ho rfl (pc := 135) dX4_readLog_135 rfl hq_0_2 ?_
    exact s_aret (pc := 138) dX4_readLog_138 rfl (fun _ _ q => q)
def pX4_readLog (s0 : RS) (s1 : RS) (s2 : RS) (s3 : RS) (a0 : Int32) : Option (RS × RS × RS) :=
  (pX8_begin s1 a0).bind fun x1 =>
  (a_loop (fun (q : Bool × Int32 × RS × RS × RS) => X4_readLog_b12 q.1 q.2.1 q.2.2.1 q.2.2.2.1 s2 q.2.2.2.2) FU (true, (0 : Int32), s0, x1, s3)).bind fun (t10 : Bool × RS × RS × RS) =>
    X4_readLog_j115 t10.1 t10.2.1 t10.2.2.1 s2 t10.2.2.2
theorem pX4_readLog_w (ho : xok [(4, b0), (8, b1), (0, b2), (3, b3)] h.2.1) (hq_0_0 : f0 0 = some b1) (hq_0_1 : f0 1 = some b2) (hq_0_2 : f0 2 = some b3) (s0 : RS) (s1 : RS) (s2 : RS) (s3 : RS) (a0 : Int32) : aS l 5 MX4_readLog n0 S0 (oΦ (fun (x : RS × RS × RS) => ((some (.ref b3)), xw [(4, b0, f0, x.1), (8, b1, f1, x.2.1), (0, b2, f2, s2), (3, b3, f3, x.2.2)] h))) 0 [(0, .ref b0), (1, .int a0)] [] (xw [(4, b0, f0, s0), (8, b1, f1, s1), (0, b2, f2, s2), (3, b3, f3, s3)] h) (pX4_readLog s0 s1 s2 s3 a0) := by
  unfold pX4_readLog
  refine s_aload_n (pc := 0) 0 dX4_readLog_0 rfl ?_
  refine xg_X4_26 0 ho rfl (pc := 1) dX4_readLog_1 rfl hq_0_0 ?_
  refine s_iload_n (pc := 4) 1 dX4_readLog_4 rfl ?_
  refine x_callV (M := MX4_readLog) (L := [(4, b0, f0, s0), (8, b1, f1, s1), (0, b2, f2, s2), (3, b3, f3, s3)]) (h := h) (j := 1) (As := [.int a0]) (st := []) (A := fun (x : RS) => none) (Lc := [(8, b1, f1, s1)]) (Lr := fun (x : RS) => [(8, b1, f1, x)]) (L2 := fun (x : RS) => [(4, b0, f0, s0), (8, b1, f1, x), (0, b2, f2, s2), (3, b3, f3, s3)]) cv_X4_34 (by decide) (pc := 5) dX4_readLog_5 ho rfl xc0_8 rfl rfl (Nat.le_of_ble_eq_true rfl) (xovs (L := [(4, b0, f0, s0), (8, b1, f1, s1), (0, b2, f2, s2), (3, b3, f3, s3)]) (h := h) [(1, (8, b1, f1, s1))] ho ⟨rfl, trivial⟩).1 (fun x => (xovs (L := [(4, b0, f0, s0), (8, b1, f1, s1), (0, b2, f2, s2), (3, b3, f3, s3)]) (h := h) [(1, (8, b1, f1, x))] ho ⟨rfl, trivial⟩).1) (fun x hx => pX8_begin_ok (h := xw [(4, b0, f0, s0), (8, b1, f1, s1), (0, b2, f2, s2), (3, b3, f3, s3)] h) (f0 := f1) (xok_sub ho [1] rfl (by decide)) s1 a0 x hx) rfl (fun x1 _ => ?_)
  refine s_iconst (v := 1) (pc := 8) dX4_readLog_8 (by decide) ?_
  refine s_istore_n (lv' := [(2, .int 1), (0, .ref b0), (1, .int a0)]) (pc := 9) dX4_readLog_9 (by decide) rfl ?_
  refine s_iconst (v := 0) (pc := 10) dX4_readLog_10 (by decide) ?_
  refine s_istore_n (lv' := [(3, .int 0), (2, .int 1), (0, .ref b0), (1, .int a0)]) (pc := 11) dX4_readLog_11 (by decide) rfl ?_
  refine s_bind (Ψ := X4_readLog_x12 l n0 S0 h b0 b1 b2 b3 f0 f1 f2 f3 s2) ?_ ?_
  · refine s_sub [2, 1, 0] rfl ?_
    exact s_loop (lvf := fun (q : Bool × Int32 × RS × RS × RS) => [(0, .ref b0), (2, .int (b2i q.1)), (3, .int q.2.1)]) (stf := fun _ => []) (hf := fun (q : Bool × Int32 × RS × RS × RS) => xw [(4, b0, f0, q.2.2.1), (8, b1, f1, q.2.2.2.1), (0, b2, f2, s2), (3, b3, f3, q.2.2.2.2)] h) (fun q => X4_readLog_b12_ok ho hq_0_0 hq_0_1 hq_0_2 q.1 q.2.1 q.2.2.1 q.2.2.2.1 s2 q.2.2.2.2) FU (true, (0 : Int32), s0, x1, s3)
  · intro t10 z r h' hz hr
    refine (?_ : aS l 5 MX4_readLog n0 S0 (oΦ (fun (x : RS × RS × RS) => ((some (.ref b3)), xw [(4, b0, f0, x.1), (8, b1, f1, x.2.1), (0, b2, f2, s2), (3, b3, f3, x.2.2)] h))) 115 [(0, .ref b0), (2, .int (b2i t10.1))] [] (xw [(4, b0, f0, t10.2.1), (8, b1, f1, t10.2.2.1), (0, b2, f2, s2), (3, b3, f3, t10.2.2.2)] h) _) z hz r h' hr
    exact X4_readLog_j115_ok ho hq_0_0 hq_0_1 hq_0_2 t10.1 t10.2.1 t10.2.2.1 s2 t10.2.2.2
theorem pX4_readLog_ok (ho : xok [(4, b0), (8, b1), (0, b2), (3, b3)] h.2.1) (hq_0_0 : f0 0 = some b1) (hq_0_1 : f0 1 = some b2) (hq_0_2 : f0 2 = some b3) (s0 : RS) (s1 : RS) (s2 : RS) (s3 : RS) (a0 : Int32) : ∀ x, pX4_readLog s0 s1 s2 s3 a0 = some x → aMet l 5 yX4_readLog cX4_readLog 6 (some (.object "SwapBook$Log")) [.ref b0, .int a0] (xw [(4, b0, f0, s0), (8, b1, f1, s1), (0, b2, f2, s2), (3, b3, f3, s3)] h) (some (.ref b3)) (xw [(4, b0, f0, x.1), (8, b1, f1, x.2.1), (0, b2, f2, s2), (3, b3, f3, x.2.2)] h) := fun x hx => a_meth (ini := false) (y := yX4_readLog) (by decide +kernel) (fun q => by cases q) (fun _ => Nat.le_of_ble_eq_true rfl) (pX4_readLog_w ho hq_0_0 hq_0_1 hq_0_2 s0 s1 s2 s3 a0) x hx _ _ ⟨rfl, rfl⟩
end
section
variable {l : Launch} {n0 S0 : Nat} {h : aH} {b0 b1 b2 : Nat} {f0 f1 f2 : Nat → Option Nat}
abbrev MX10_isRow : aM := (cX10_isRow, RX10, 2, (some .boolean), false)
def pX10_isRow (s0 : RS) (s1 : RS) (s2 : RS) (a0 : Int32) : Option Bool :=
  if a0 < 0 then
    some false
  else
    if (s2.1 1) ≤ a0 then
      some false
    else
      if (60 : Int32) ≤ a0 then
        some false
      else
        some true
theorem pX10_isRow_w (ho : xok [(10, b0), (0, b1), (3, b2)] h.2.1) (hq_0_7 : f0 7 = some b1) (hq_0_8 : f0 8 = some b2) (s0 : RS) (s1 : RS) (s2 : RS) (a0 : Int32) : aS l 0 MX10_isRow n0 S0 (oΦ (fun (x : Bool) => ((some (.int (b2i x))), xw [(10, b0, f0, s0), (0, b1, f1, s1), (3, b2, f2, s2)] h))) 0 [(0, .ref b0), (1, .int a0)] [] (xw [(10, b0, f0, s0), (0, b1, f1, s1), (3, b2, f2, s2)] h) (pX10_isRow s0 s1 s2 a0) := by
  unfold pX10_isRow
  refine s_iload_n (pc := 0) 1 dX10_isRow_0 rfl ?_
  refine s_if_lt (tgt := 25) (pc := 1) dX10_isRow_1 (by decide) (fun _ => ?_) (fun _ => ?_)
  · refine s_iconst (v := 0) (pc := 25) dX10_isRow_25 (by decide) ?_
    exact s_zretB (b := false) (pc := 26) dX10_isRow_26 rfl (fun _ _ q => q)
  · refine s_iload_n (pc := 4) 1 dX10_isRow_4 rfl ?_
    refine s_aload_n (pc := 5) 0 dX10_isRow_5 rfl ?_
    refine xg_X10_44 0 ho rfl (pc := 6) dX10_isRow_6 rfl hq_0_8 ?_
    refine xg_X10_86 2 ho rfl (pc := 9) dX10_isRow_9 rfl ?_
    refine s_icmp_ge (tgt := 25) (pc := 12) dX10_isRow_12 (by decide) (fun _ => ?_) (fun _ => ?_)
    · refine s_iconst (v := 0) (pc := 25) dX10_isRow_25 (by decide) ?_
      exact s_zretB (b := false) (pc := 26) dX10_isRow_26 rfl (fun _ _ q => q)
    · refine s_iload_n (pc := 15) 1 dX10_isRow_15 rfl ?_
      refine s_bipush (v := 60) (pc := 16) dX10_isRow_16 (by decide) ?_
      refine s_icmp_ge (tgt := 25) (pc := 18) dX10_isRow_18 (by decide) (fun _ => ?_) (fun _ => ?_)
      · refine s_iconst (v := 0) (pc := 25) dX10_isRow_25 (by decide) ?_
        exact s_zretB (b := false) (pc := 26) dX10_isRow_26 rfl (fun _ _ q => q)
      · refine s_iconst (v := 1) (pc := 21) dX10_isRow_21 (by decide) ?_
        refine s_goto (tgt := 26) (pc := 22) dX10_isRow_22 (by decide) ?_
        exact s_zretB (b := true) (pc := 26) dX10_isRow_26 rfl (fun _ _ q => q)
theorem pX10_isRow_ok (ho : xok [(10, b0), (0, b1), (3, b2)] h.2.1) (hq_0_7 : f0 7 = some b1) (hq_0_8 : f0 8 = some b2) (s0 : RS) (s1 : RS) (s2 : RS) (a0 : Int32) : ∀ x, pX10_isRow s0 s1 s2 a0 = some x → aMet l 0 yX10_isRow cX10_isRow 2 (some .boolean) [.ref b0, .int a0] (xw [(10, b0, f0, s0), (0, b1, f1, s1), (3, b2, f2, s2)] h) (some (.int (b2i x))) (xw [(10, b0, f0, s0), (0, b1, f1, s1), (3, b2, f2, s2)] h) := fun x hx => a_meth (ini := false) (y := yX10_isRow) (by decide +kernel) (fun q => by cases q) (fun _ => Nat.le_of_ble_eq_true rfl) (pX10_isRow_w ho hq_0_7 hq_0_8 s0 s1 s2 a0) x hx _ _ ⟨rfl, rfl⟩
end
section
variable {l : Launch} {n0 S0 : Nat} {h : aH} {b0 b1 b2 : Nat} {f0 f1 f2 : Nat → Option Nat}
abbrev MX10_rowAfterEnd : aM := (cX10_rowAfterEnd, RX10, 3, (some .int), false)
def pX10_rowAfterEnd (s0 : RS) (s1 : RS) (s2 : RS) (a0 : Int32) : Option (Int32 × RS) :=
  g_in a0 60 (
  thn (s2.2.2.1 7 a0.toNatClampNeg) fun x1 =>
  (pX10_isRow s0 s1 s2 x1).bind fun x2 =>
  if x2 = true then
    g_in x1 60 (
    if (s2.2.2.1 2 x1.toNatClampNeg) = (25 : Int32) then
      g_in x1 60 (
      g_in x1 60 (thn (uA s0 15 (upd (s0.2.2.1 15) x1.toNatClampNeg ((s0.2.2.1 15 x1.toNatClampNeg) - (1 : Int32)))) fun s_3 =>
      g_in x1 60 (
      if (s_3.2.2.1 15 x1.toNatClampNeg) ≤ 0 then
        some ((a0 + (1 : Int32)), s_3)
      else
        some ((x1 + (1 : Int32)), s_3))))
    else
      some ((a0 + (1 : Int32)), s0))
  else
    some ((a0 + (1 : Int32)), s0))
theorem pX10_rowAfterEnd_w (ho : xok [(10, b0), (0, b1), (3, b2)] h.2.1) (hq_0_7 : f0 7 = some b1) (hq_0_8 : f0 8 = some b2) (s0 : RS) (s1 : RS) (s2 : RS) (a0 : Int32) : aS l 1 MX10_rowAfterEnd n0 S0 (oΦ (fun (x : Int32 × RS) => ((some (.int x.1)), xw [(10, b0, f0, x.2), (0, b1, f1, s1), (3, b2, f2, s2)] h))) 0 [(0, .ref b0), (1, .int a0)] [] (xw [(10, b0, f0, s0), (0, b1, f1, s1), (3, b2, f2, s2)] h) (pX10_rowAfterEnd s0 s1 s2 a0) := by
  unfold pX10_rowAfterEnd
  refine s_aload_n (pc := 0) 0 dX10_rowAfterEnd_0 rfl ?_
  refine xg_X10_44 0 ho rfl (pc := 1) dX10_rowAfterEnd_1 rfl hq_0_8 ?_
  refine xg_X10_92 2 ho rfl (pc := 4) dX10_rowAfterEnd_4 rfl ?_
  refine s_iload_n (pc := 7) 1 dX10_rowAfterEnd_7 rfl ?_
  refine xl_3_7 2 ho rfl (pc := 8) dX10_rowAfterEnd_8 ?_
  refine s_istore_nT (lv' := fun x1 => [(2, .int x1), (0, .ref b0), (1, .int a0)]) (pc := 9) dX10_rowAfterEnd_9 (by decide) (fun _ => rfl) (fun x1 => ?_)
  refine s_aload_n (pc := 10) 1 dX10_rowAfterEnd_10 rfl ?_
  refine s_iload_n (pc := 11) 0 dX10_rowAfterEnd_11 rfl ?_
  refine x_callV (M := MX10_rowAfterEnd) (L := [(10, b0, f0, s0), (0, b1, f1, s1), (3, b2, f2, s2)]) (h := h) (j := 0) (As := [.int x1]) (st := []) (A := fun (x : Bool) => some (.int (b2i x))) (Lc := [(10, b0, f0, s0), (0, b1, f1, s1), (3, b2, f2, s2)]) (Lr := fun (x : Bool) => [(10, b0, f0, s0), (0, b1, f1, s1), (3, b2, f2, s2)]) (L2 := fun (x : Bool) => [(10, b0, f0, s0), (0, b1, f1, s1), (3, b2, f2, s2)]) cv_X10_70 (by decide) (pc := 12) dX10_rowAfterEnd_12 ho rfl xc0_10 rfl rfl (Nat.le_of_ble_eq_true rfl) (xovs (L := [(10, b0, f0, s0), (0, b1, f1, s1), (3, b2, f2, s2)]) (h := h) [(0, (10, b0, f0, s0)), (1, (0, b1, f1, s1)), (2, (3, b2, f2, s2))] ho ⟨rfl, rfl, rfl, trivial⟩).1 (fun x => (xovs (L := [(10, b0, f0, s0), (0, b1, f1, s1), (3, b2, f2, s2)]) (h := h) [(0, (10, b0, f0, s0)), (1, (0, b1, f1, s1)), (2, (3, b2, f2, s2))] ho ⟨rfl, rfl, rfl, trivial⟩).1) (fun x hx => pX10_isRow_ok (h := xw [(10, b0, f0, s0), (0, b1, f1, s1), (3, b2, f2, s2)] h) (f0 := f0) (f1 := f1) (f2 := f2) (xok_sub ho [0, 1, 2] rfl (by decide)) hq_0_7 hq_0_8 s0 s1 s2 x1 x hx) rfl (fun x2 _ => ?_)
  refine s_if_eqB (tgt := 55) (pc := 15) dX10_rowAfterEnd_15 (by decide) (fun _ => ?_) (fun _ => ?_)
  · refine s_aload_n (pc := 18) 1 dX10_rowAfterEnd_18 rfl ?_
    refine xg_X10_44 0 ho rfl (pc := 19) dX10_rowAfterEnd_19 rfl hq_0_8 ?_
    refine xg_X10_74 2 ho rfl (pc := 22) dX10_rowAfterEnd_22 rfl ?_
    refine s_iload_n (pc := 25) 0 dX10_rowAfterEnd_25 rfl ?_
    refine xl_3_2 2 ho rfl (pc := 26) dX10_rowAfterEnd_26 ?_
    refine s_bipush (v := 25) (pc := 27) dX10_rowAfterEnd_27 (by decide) ?_
    refine s_icmp_ne (tgt := 55) (pc := 29) dX10_rowAfterEnd_29 (by decide) (fun _ => ?_) (fun _ => ?_)
    · refine s_aload_n (pc := 32) 1 dX10_rowAfterEnd_32 rfl ?_
      refine xg_X10_66 0 ho rfl (pc := 33) dX10_rowAfterEnd_33 rfl ?_
      refine s_iload_n (pc := 36) 0 dX10_rowAfterEnd_36 rfl ?_
      refine s_dup2_11 (pc := 37) dX10_rowAfterEnd_37 rfl rfl ?_
      refine xl_10_15 0 ho rfl (pc := 38) dX10_rowAfterEnd_38 ?_
      refine s_iconst (v := 1) (pc := 39) dX10_rowAfterEnd_39 (by decide) ?_
      refine s_isub (pc := 40) dX10_rowAfterEnd_40 ?_
      refine xs_10_15 (L' := fun s_3 => [(10, b0, f0, s_3), (0, b1, f1, s1), (3, b2, f2, s2)]) 0 ho rfl (fun _ => rfl) (pc := 41) dX10_rowAfterEnd_41 (fun s_3 => ?_)
      refine s_aload_n (pc := 42) 1 dX10_rowAfterEnd_42 rfl ?_
      refine xg_X10_66 0 ho rfl (pc := 43) dX10_rowAfterEnd_43 rfl ?_
      refine s_iload_n (pc := 46) 0 dX10_rowAfterEnd_46 rfl ?_
      refine xl_10_15 0 ho rfl (pc := 47) dX10_rowAfterEnd_47 ?_
      refine s_if_le (tgt := 55) (pc := 48) dX10_rowAfterEnd_48 (by decide) (fun _ => ?_) (fun _ => ?_)
      · refine s_iload_n (pc := 55) 2 dX10_rowAfterEnd_55 rfl ?_
        refine s_iconst (v := 1) (pc := 56) dX10_rowAfterEnd_56 (by decide) ?_
        refine s_iadd (pc := 57) dX10_rowAfterEnd_57 ?_
        exact s_iret (pc := 58) dX10_rowAfterEnd_58 rfl (fun _ _ q => q)
      · refine s_iload_n (pc := 51) 0 dX10_rowAfterEnd_51 rfl ?_
        refine s_iconst (v := 1) (pc := 52) dX10_rowAfterEnd_52 (by decide) ?_
        refine s_iadd (pc := 53) dX10_rowAfterEnd_53 ?_
        exact s_iret (pc := 54) dX10_rowAfterEnd_54 rfl (fun _ _ q => q)
    · refine s_iload_n (pc := 55) 2 dX10_rowAfterEnd_55 rfl ?_
      refine s_iconst (v := 1) (pc := 56) dX10_rowAfterEnd_56 (by decide) ?_
      refine s_iadd (pc := 57) dX10_rowAfterEnd_57 ?_
      exact s_iret (pc := 58) dX10_rowAfterEnd_58 rfl (fun _ _ q => q)
  · refine s_iload_n (pc := 55) 2 dX10_rowAfterEnd_55 rfl ?_
    refine s_iconst (v := 1) (pc := 56) dX10_rowAfterEnd_56 (by decide) ?_
    refine s_iadd (pc := 57) dX10_rowAfterEnd_57 ?_
    exact s_iret (pc := 58) dX10_rowAfterEnd_58 rfl (fun _ _ q => q)
theorem pX10_rowAfterEnd_ok (ho : xok [(10, b0), (0, b1), (3, b2)] h.2.1) (hq_0_7 : f0 7 = some b1) (hq_0_8 : f0 8 = some b2) (s0 : RS) (s1 : RS) (s2 : RS) (a0 : Int32) : ∀ x, pX10_rowAfterEnd s0 s1 s2 a0 = some x → aMet l 1 yX10_rowAfterEnd cX10_rowAfterEnd 3 (some .int) [.ref b0, .int a0] (xw [(10, b0, f0, s0), (0, b1, f1, s1), (3, b2, f2, s2)] h) (some (.int x.1)) (xw [(10, b0, f0, x.2), (0, b1, f1, s1), (3, b2, f2, s2)] h) := fun x hx => a_meth (ini := false) (y := yX10_rowAfterEnd) (by decide +kernel) (fun q => by cases q) (fun _ => Nat.le_of_ble_eq_true rfl) (pX10_rowAfterEnd_w ho hq_0_7 hq_0_8 s0 s1 s2 a0) x hx _ _ ⟨rfl, rfl⟩
end
section
variable {l : Launch} {n0 S0 : Nat} {h : aH} {b0 b1 b2 : Nat} {f0 f1 f2 : Nat → Option Nat}
abbrev MX10_isAnywhere : aM := (cX10_isAnywhere, RX10, 3, (some .boolean), false)
def X10_isAnywhere_x2 (l : Launch) (n0 S0 : Nat) (h : aH) (b0 : Nat) (b1 : Nat) (b2 : Nat) (f0 : Nat → Option Nat) (f1 : Nat → Option Nat) (f2 : Nat → Option Nat) (v1 : Int32) (s0 : RS) (s1 : RS) (s2 : RS) : (Unit ⊕ Unit) → Option Value → aH → Prop := Sum.elim (fun (x : Unit) (r : Option Value) (h' : aH) => aEv l 1 MX10_isAnywhere n0 S0 26 [] [] (xw [(10, b0, f0, s0), (0, b1, f1, s1), (3, b2, f2, s2)] h) r h') (fun (x : Unit) (r : Option Value) (h' : aH) => aEv l 1 MX10_isAnywhere n0 S0 34 [] [] (xw [(10, b0, f0, s0), (0, b1, f1, s1), (3, b2, f2, s2)] h) r h')
def X10_isAnywhere_b2 (v1 : Int32) (v2 : Int32) (s0 : RS) (s1 : RS) (s2 : RS) : Option (Int32 ⊕ (Unit ⊕ Unit)) :=
  if (s1.1 0) ≤ v2 then
    some (.inr (.inr ()))
  else
    g_in v2 4 (
    (pX0_isIn (s0.2.2.1 0 v2.toNatClampNeg) v1).bind fun x1 =>
    if x1 = true then
      some (.inr (.inl ()))
    else
      thn (v2 + 1) fun x2 =>
      some (.inl x2))
theorem X10_isAnywhere_b2_ok (ho : xok [(10, b0), (0, b1), (3, b2)] h.2.1) (hq_0_7 : f0 7 = some b1) (hq_0_8 : f0 8 = some b2) (v1 : Int32) (v2 : Int32) (s0 : RS) (s1 : RS) (s2 : RS) : aS l 1 MX10_isAnywhere n0 S0 (a_LΦ (X10_isAnywhere_x2 l n0 S0 h b0 b1 b2 f0 f1 f2 v1 s0 s1 s2) l 1 MX10_isAnywhere n0 S0 2 (fun (q : Int32) => [(0, .ref b0), (1, .int v1), (2, .int q)]) (fun _ => []) (fun (q : Int32) => xw [(10, b0, f0, s0), (0, b1, f1, s1), (3, b2, f2, s2)] h)) 2 [(0, .ref b0), (1, .int v1), (2, .int v2)] [] (xw [(10, b0, f0, s0), (0, b1, f1, s1), (3, b2, f2, s2)] h) (X10_isAnywhere_b2 v1 v2 s0 s1 s2) := by
  unfold X10_isAnywhere_b2
  refine s_iload_n (pc := 2) 2 dX10_isAnywhere_2 rfl ?_
  refine s_aload_n (pc := 3) 0 dX10_isAnywhere_3 rfl ?_
  refine xg_X10_37 0 ho rfl (pc := 4) dX10_isAnywhere_4 rfl hq_0_7 ?_
  refine xg_X10_89 1 ho rfl (pc := 7) dX10_isAnywhere_7 rfl ?_
  refine s_icmp_ge (tgt := 34) (pc := 10) dX10_isAnywhere_10 (by decide) (fun _ => ?_) (fun _ => ?_)
  · refine s_sub [] rfl ?_
    exact s_ev (fun _ _ q => q)
  · refine s_aload_n (pc := 13) 0 dX10_isAnywhere_13 rfl ?_
    refine xg_X10_9 0 ho rfl (pc := 14) dX10_isAnywhere_14 rfl ?_
    refine s_iload_n (pc := 17) 2 dX10_isAnywhere_17 rfl ?_
    refine xl_10_0 0 ho rfl (pc := 18) dX10_isAnywhere_18 ?_
    refine s_iload_n (pc := 19) 1 dX10_isAnywhere_19 rfl ?_
    refine s_callS (M := MX10_isAnywhere) (As := [.int (s0.2.2.1 0 v2.toNatClampNeg), .int v1]) (st := []) (Ψ := fun (x : Bool) => (some (.int (b2i x)), xw [(10, b0, f0, s0), (0, b1, f1, s1), (3, b2, f2, s2)] h)) cs_X10_112 (by decide) (pc := 20) dX10_isAnywhere_20 rfl (Nat.le_of_ble_eq_true rfl) (fun x hx => pX0_isIn_ok (s0.2.2.1 0 v2.toNatClampNeg) v1 x hx) rfl (fun x1 _ => ?_)
    refine s_if_eqB (tgt := 28) (pc := 23) dX10_isAnywhere_23 (by decide) (fun _ => ?_) (fun _ => ?_)
    · refine s_sub [] rfl ?_
      exact s_ev (fun _ _ q => q)
    · refine s_iincT (pc := 28) 2 (lv' := fun x2 => [(2, .int x2), (0, .ref b0), (1, .int v1)]) dX10_isAnywhere_28 rfl rfl (by decide) (fun _ => rfl) (fun x2 => ?_)
      refine s_goto (tgt := 2) (pc := 31) dX10_isAnywhere_31 (by decide) ?_
      refine s_sub [1, 2, 0] rfl ?_
      exact s_ev (fun _ _ q => q)
def pX10_isAnywhere (s0 : RS) (s1 : RS) (s2 : RS) (a0 : Int32) : Option Bool :=
  (a_loop (fun (q : Int32) => X10_isAnywhere_b2 a0 q s0 s1 s2) FU (0 : Int32)).bind (Sum.elim (fun (t3 : Unit) =>
      some true)
    (fun (t4 : Unit) =>
      some false))
theorem pX10_isAnywhere_w (ho : xok [(10, b0), (0, b1), (3, b2)] h.2.1) (hq_0_7 : f0 7 = some b1) (hq_0_8 : f0 8 = some b2) (s0 : RS) (s1 : RS) (s2 : RS) (a0 : Int32) : aS l 1 MX10_isAnywhere n0 S0 (oΦ (fun (x : Bool) => ((some (.int (b2i x))), xw [(10, b0, f0, s0), (0, b1, f1, s1), (3, b2, f2, s2)] h))) 0 [(0, .ref b0), (1, .int a0)] [] (xw [(10, b0, f0, s0), (0, b1, f1, s1), (3, b2, f2, s2)] h) (pX10_isAnywhere s0 s1 s2 a0) := by
  unfold pX10_isAnywhere
  refine s_iconst (v := 0) (pc := 0) dX10_isAnywhere_0 (by decide) ?_
  refine s_istore_n (lv' := [(2, .int 0), (0, .ref b0), (1, .int a0)]) (pc := 1) dX10_isAnywhere_1 (by decide) rfl ?_
  refine s_bind (Ψ := X10_isAnywhere_x2 l n0 S0 h b0 b1 b2 f0 f1 f2 a0 s0 s1 s2) ?_ ?_
  · refine s_sub [1, 2, 0] rfl ?_
    exact s_loop (lvf := fun (q : Int32) => [(0, .ref b0), (1, .int a0), (2, .int q)]) (stf := fun _ => []) (hf := fun (q : Int32) => xw [(10, b0, f0, s0), (0, b1, f1, s1), (3, b2, f2, s2)] h) (fun q => X10_isAnywhere_b2_ok ho hq_0_7 hq_0_8 a0 q s0 s1 s2) FU (0 : Int32)
  · intro x z r h' hz hr
    rcases x with t3 | t4
    · refine (?_ : aS l 1 MX10_isAnywhere n0 S0 (oΦ (fun (x : Bool) => ((some (.int (b2i x))), xw [(10, b0, f0, s0), (0, b1, f1, s1), (3, b2, f2, s2)] h))) 26 [] [] (xw [(10, b0, f0, s0), (0, b1, f1, s1), (3, b2, f2, s2)] h) _) z (show _ = some z from hz) r h' hr
      refine s_iconst (v := 1) (pc := 26) dX10_isAnywhere_26 (by decide) ?_
      exact s_zretB (b := true) (pc := 27) dX10_isAnywhere_27 rfl (fun _ _ q => q)
    · refine (?_ : aS l 1 MX10_isAnywhere n0 S0 (oΦ (fun (x : Bool) => ((some (.int (b2i x))), xw [(10, b0, f0, s0), (0, b1, f1, s1), (3, b2, f2, s2)] h))) 34 [] [] (xw [(10, b0, f0, s0), (0, b1, f1, s1), (3, b2, f2, s2)] h) _) z (show _ = some z from hz) r h' hr
      refine s_iconst (v := 0) (pc := 34) dX10_isAnywhere_34 (by decide) ?_
      exact s_zretB (b := false) (pc := 35) dX10_isAnywhere_35 rfl (fun _ _ q => q)
theorem pX10_isAnywhere_ok (ho : xok [(10, b0), (0, b1), (3, b2)] h.2.1) (hq_0_7 : f0 7 = some b1) (hq_0_8 : f0 8 = some b2) (s0 : RS) (s1 : RS) (s2 : RS) (a0 : Int32) : ∀ x, pX10_isAnywhere s0 s1 s2 a0 = some x → aMet l 1 yX10_isAnywhere cX10_isAnywhere 3 (some .boolean) [.ref b0, .int a0] (xw [(10, b0, f0, s0), (0, b1, f1, s1), (3, b2, f2, s2)] h) (some (.int (b2i x))) (xw [(10, b0, f0, s0), (0, b1, f1, s1), (3, b2, f2, s2)] h) := fun x hx => a_meth (ini := false) (y := yX10_isAnywhere) (by decide +kernel) (fun q => by cases q) (fun _ => Nat.le_of_ble_eq_true rfl) (pX10_isAnywhere_w ho hq_0_7 hq_0_8 s0 s1 s2 a0) x hx _ _ ⟨rfl, rfl⟩
end
section
variable {l : Launch} {n0 S0 : Nat} {h : aH} {b0 b1 b2 : Nat} {f0 f1 f2 : Nat → Option Nat}
abbrev MX10_alter : aM := (cX10_alter, RX10, 4, (some .boolean), false)
def pX10_alter (s0 : RS) (s1 : RS) (s2 : RS) (a0 : Int32) (a1 : Int32) (a2 : Int32) : Option (Bool × RS) :=
  (pX0_isIsland s1 a1).bind fun x1 =>
  if x1 = true then
    (pX0_isChange s1 a2).bind fun x2 =>
    if x2 = true then
      if a0 = 11 then
        g_in a2 16 (
        g_in a1 4 (
        if ((s1.2.2.1 10 a2.toNatClampNeg) &&& ((s0.2.2.1 0 a1.toNatClampNeg) ^^^ (-1 : Int32))) = 0 then
          g_in a1 4 (
          g_in a1 4 (thn (uA s0 0 (upd (s0.2.2.1 0) a1.toNatClampNeg ((s0.2.2.1 0 a1.toNatClampNeg) ||| ((1 : Int32) <<< (a2 &&& 31))))) fun s_3 =>
          some (true, s_3)))
        else
          some (false, s0)))
      else
        if a0 = 17 then
          g_in a1 4 (
          (pX0_without s1 (s0.2.2.1 0 a1.toNatClampNeg) a2).bind fun x4 =>
          g_in a1 4 (thn (uA s0 0 (upd (s0.2.2.1 0) a1.toNatClampNeg x4)) fun s_5 =>
          some (true, s_5)))
        else
          (pX10_isAnywhere s0 s1 s2 a2).bind fun x6 =>
          if x6 = true then
            g_in a1 4 (
            (pX0_including s1 (s0.2.2.1 0 a1.toNatClampNeg) a2).bind fun x7 =>
            g_in a1 4 (thn (uA s0 0 (upd (s0.2.2.1 0) a1.toNatClampNeg x7)) fun s_8 =>
            some (true, s_8)))
          else
            some (false, s0)
    else
      some (false, s0)
  else
    some (false, s0)
theorem pX10_alter_w (ho : xok [(10, b0), (0, b1), (3, b2)] h.2.1) (hq_0_7 : f0 7 = some b1) (hq_0_8 : f0 8 = some b2) (s0 : RS) (s1 : RS) (s2 : RS) (a0 : Int32) (a1 : Int32) (a2 : Int32) : aS l 2 MX10_alter n0 S0 (oΦ (fun (x : Bool × RS) => ((some (.int (b2i x.1))), xw [(10, b0, f0, x.2), (0, b1, f1, s1), (3, b2, f2, s2)] h))) 0 [(0, .ref b0), (1, .int a0), (2, .int a1), (3, .int a2)] [] (xw [(10, b0, f0, s0), (0, b1, f1, s1), (3, b2, f2, s2)] h) (pX10_alter s0 s1 s2 a0 a1 a2) := by
  unfold pX10_alter
  refine s_aload_n (pc := 0) 0 dX10_alter_0 rfl ?_
  refine xg_X10_37 0 ho rfl (pc := 1) dX10_alter_1 rfl hq_0_7 ?_
  refine s_iload_n (pc := 4) 2 dX10_alter_4 rfl ?_
  refine x_callV (M := MX10_alter) (L := [(10, b0, f0, s0), (0, b1, f1, s1), (3, b2, f2, s2)]) (h := h) (j := 1) (As := [.int a1]) (st := []) (A := fun (x : Bool) => some (.int (b2i x))) (Lc := [(0, b1, f1, s1)]) (Lr := fun (x : Bool) => [(0, b1, f1, s1)]) (L2 := fun (x : Bool) => [(10, b0, f0, s0), (0, b1, f1, s1), (3, b2, f2, s2)]) cv_X10_106 (by decide) (pc := 5) dX10_alter_5 ho rfl xc0_0 rfl rfl (Nat.le_of_ble_eq_true rfl) (xovs (L := [(10, b0, f0, s0), (0, b1, f1, s1), (3, b2, f2, s2)]) (h := h) [(1, (0, b1, f1, s1))] ho ⟨rfl, trivial⟩).1 (fun x => (xovs (L := [(10, b0, f0, s0), (0, b1, f1, s1), (3, b2, f2, s2)]) (h := h) [(1, (0, b1, f1, s1))] ho ⟨rfl, trivial⟩).1) (fun x hx => pX0_isIsland_ok (h := xw [(10, b0, f0, s0), (0, b1, f1, s1), (3, b2, f2, s2)] h) (f0 := f1) (xok_sub ho [1] rfl (by decide)) s1 a1 x hx) rfl (fun x1 _ => ?_)
  refine s_if_eqB (tgt := 22) (pc := 8) dX10_alter_8 (by decide) (fun _ => ?_) (fun _ => ?_)
  · refine s_aload_n (pc := 11) 0 dX10_alter_11 rfl ?_
    refine xg_X10_37 0 ho rfl (pc := 12) dX10_alter_12 rfl hq_0_7 ?_
    refine s_iload_n (pc := 15) 3 dX10_alter_15 rfl ?_
    refine x_callV (M := MX10_alter) (L := [(10, b0, f0, s0), (0, b1, f1, s1), (3, b2, f2, s2)]) (h := h) (j := 1) (As := [.int a2]) (st := []) (A := fun (x : Bool) => some (.int (b2i x))) (Lc := [(0, b1, f1, s1)]) (Lr := fun (x : Bool) => [(0, b1, f1, s1)]) (L2 := fun (x : Bool) => [(10, b0, f0, s0), (0, b1, f1, s1), (3, b2, f2, s2)]) cv_X10_133 (by decide) (pc := 16) dX10_alter_16 ho rfl xc0_0 rfl rfl (Nat.le_of_ble_eq_true rfl) (xovs (L := [(10, b0, f0, s0), (0, b1, f1, s1), (3, b2, f2, s2)]) (h := h) [(1, (0, b1, f1, s1))] ho ⟨rfl, trivial⟩).1 (fun x => (xovs (L := [(10, b0, f0, s0), (0, b1, f1, s1), (3, b2, f2, s2)]) (h := h) [(1, (0, b1, f1, s1))] ho ⟨rfl, trivial⟩).1) (fun x hx => pX0_isChange_ok (h := xw [(10, b0, f0, s0), (0, b1, f1, s1), (3, b2, f2, s2)] h) (f0 := f1) (xok_sub ho [1] rfl (by decide)) s1 a2 x hx) rfl (fun x2 _ => ?_)
    refine s_if_neB (tgt := 24) (pc := 19) dX10_alter_19 (by decide) (fun _ => ?_) (fun _ => ?_)
    · refine s_iload_n (pc := 24) 1 dX10_alter_24 rfl ?_
      refine s_case (c := a0 = 11) (fun c0 => ?_) (fun n9 => ?_)
      · refine s_look (tgt := 52) (off := 27) (pc := 25) dX10_alter_25 (by decide) (by rw [c0]; rfl) (by decide) ?_
        refine s_aload_n (pc := 52) 0 dX10_alter_52 rfl ?_
        refine xg_X10_37 0 ho rfl (pc := 53) dX10_alter_53 rfl hq_0_7 ?_
        refine xg_X10_136 1 ho rfl (pc := 56) dX10_alter_56 rfl ?_
        refine s_iload_n (pc := 59) 3 dX10_alter_59 rfl ?_
        refine xl_0_10 1 ho rfl (pc := 60) dX10_alter_60 ?_
        refine s_aload_n (pc := 61) 0 dX10_alter_61 rfl ?_
        refine xg_X10_9 0 ho rfl (pc := 62) dX10_alter_62 rfl ?_
        refine s_iload_n (pc := 65) 2 dX10_alter_65 rfl ?_
        refine xl_10_0 0 ho rfl (pc := 66) dX10_alter_66 ?_
        refine s_iconst (v := (-1)) (pc := 67) dX10_alter_67 (by decide) ?_
        refine s_ixor (pc := 68) dX10_alter_68 ?_
        refine s_iand (pc := 69) dX10_alter_69 ?_
        refine s_if_eq (tgt := 75) (pc := 70) dX10_alter_70 (by decide) (fun _ => ?_) (fun _ => ?_)
        · refine s_aload_n (pc := 75) 0 dX10_alter_75 rfl ?_
          refine xg_X10_9 0 ho rfl (pc := 76) dX10_alter_76 rfl ?_
          refine s_iload_n (pc := 79) 2 dX10_alter_79 rfl ?_
          refine s_dup2_11 (pc := 80) dX10_alter_80 rfl rfl ?_
          refine xl_10_0 0 ho rfl (pc := 81) dX10_alter_81 ?_
          refine s_iconst (v := 1) (pc := 82) dX10_alter_82 (by decide) ?_
          refine s_iload_n (pc := 83) 3 dX10_alter_83 rfl ?_
          refine s_ishl (pc := 84) dX10_alter_84 ?_
          refine s_ior (pc := 85) dX10_alter_85 ?_
          refine xs_10_0 (L' := fun s_3 => [(10, b0, f0, s_3), (0, b1, f1, s1), (3, b2, f2, s2)]) 0 ho rfl (fun _ => rfl) (pc := 86) dX10_alter_86 (fun s_3 => ?_)
          refine s_iconst (v := 1) (pc := 87) dX10_alter_87 (by decide) ?_
          exact s_zretB (b := true) (pc := 88) dX10_alter_88 rfl (fun _ _ q => q)
        · refine s_iconst (v := 0) (pc := 73) dX10_alter_73 (by decide) ?_
          exact s_zretB (b := false) (pc := 74) dX10_alter_74 rfl (fun _ _ q => q)
      · refine s_case (c := a0 = 17) (fun c0 => ?_) (fun n10 => ?_)
        · refine s_look (tgt := 89) (off := 64) (pc := 25) dX10_alter_25 (by decide) (by rw [c0]; rfl) (by decide) ?_
          refine s_aload_n (pc := 89) 0 dX10_alter_89 rfl ?_
          refine xg_X10_9 0 ho rfl (pc := 90) dX10_alter_90 rfl ?_
          refine s_iload_n (pc := 93) 2 dX10_alter_93 rfl ?_
          refine s_aload_n (pc := 94) 0 dX10_alter_94 rfl ?_
          refine xg_X10_37 0 ho rfl (pc := 95) dX10_alter_95 rfl hq_0_7 ?_
          refine s_aload_n (pc := 98) 0 dX10_alter_98 rfl ?_
          refine xg_X10_9 0 ho rfl (pc := 99) dX10_alter_99 rfl ?_
          refine s_iload_n (pc := 102) 2 dX10_alter_102 rfl ?_
          refine xl_10_0 0 ho rfl (pc := 103) dX10_alter_103 ?_
          refine s_iload_n (pc := 104) 3 dX10_alter_104 rfl ?_
          refine x_callV (M := MX10_alter) (L := [(10, b0, f0, s0), (0, b1, f1, s1), (3, b2, f2, s2)]) (h := h) (j := 1) (As := [.int (s0.2.2.1 0 a1.toNatClampNeg), .int a2]) (st := [.int a1, .ref (b0 + 1)]) (A := fun (x : Int32) => some (.int x)) (Lc := [(0, b1, f1, s1)]) (Lr := fun (x : Int32) => [(0, b1, f1, s1)]) (L2 := fun (x : Int32) => [(10, b0, f0, s0), (0, b1, f1, s1), (3, b2, f2, s2)]) cv_X10_139 (by decide) (pc := 105) dX10_alter_105 ho rfl xc0_0 rfl rfl (Nat.le_of_ble_eq_true rfl) (xovs (L := [(10, b0, f0, s0), (0, b1, f1, s1), (3, b2, f2, s2)]) (h := h) [(1, (0, b1, f1, s1))] ho ⟨rfl, trivial⟩).1 (fun x => (xovs (L := [(10, b0, f0, s0), (0, b1, f1, s1), (3, b2, f2, s2)]) (h := h) [(1, (0, b1, f1, s1))] ho ⟨rfl, trivial⟩).1) (fun x hx => pX0_without_ok (h := xw [(10, b0, f0, s0), (0, b1, f1, s1), (3, b2, f2, s2)] h) (f0 := f1) (xok_sub ho [1] rfl (by decide)) s1 (s0.2.2.1 0 a1.toNatClampNeg) a2 x hx) rfl (fun x4 _ => ?_)
          refine xs_10_0 (L' := fun s_5 => [(10, b0, f0, s_5), (0, b1, f1, s1), (3, b2, f2, s2)]) 0 ho rfl (fun _ => rfl) (pc := 108) dX10_alter_108 (fun s_5 => ?_)
          refine s_iconst (v := 1) (pc := 109) dX10_alter_109 (by decide) ?_
          exact s_zretB (b := true) (pc := 110) dX10_alter_110 rfl (fun _ _ q => q)
        · refine s_look (tgt := 111) (off := 86) (pc := 25) dX10_alter_25 (by decide) (lk1 (fun q => n9 (q.trans (by decide))) (lk1 (fun q => n10 (q.trans (by decide))) rfl)) (by decide) ?_
          refine s_aload_n (pc := 111) 0 dX10_alter_111 rfl ?_
          refine s_iload_n (pc := 112) 3 dX10_alter_112 rfl ?_
          refine x_callV (M := MX10_alter) (L := [(10, b0, f0, s0), (0, b1, f1, s1), (3, b2, f2, s2)]) (h := h) (j := 0) (As := [.int a2]) (st := []) (A := fun (x : Bool) => some (.int (b2i x))) (Lc := [(10, b0, f0, s0), (0, b1, f1, s1), (3, b2, f2, s2)]) (Lr := fun (x : Bool) => [(10, b0, f0, s0), (0, b1, f1, s1), (3, b2, f2, s2)]) (L2 := fun (x : Bool) => [(10, b0, f0, s0), (0, b1, f1, s1), (3, b2, f2, s2)]) cv_X10_143 (by decide) (pc := 113) dX10_alter_113 ho rfl xc0_10 rfl rfl (Nat.le_of_ble_eq_true rfl) (xovs (L := [(10, b0, f0, s0), (0, b1, f1, s1), (3, b2, f2, s2)]) (h := h) [(0, (10, b0, f0, s0)), (1, (0, b1, f1, s1)), (2, (3, b2, f2, s2))] ho ⟨rfl, rfl, rfl, trivial⟩).1 (fun x => (xovs (L := [(10, b0, f0, s0), (0, b1, f1, s1), (3, b2, f2, s2)]) (h := h) [(0, (10, b0, f0, s0)), (1, (0, b1, f1, s1)), (2, (3, b2, f2, s2))] ho ⟨rfl, rfl, rfl, trivial⟩).1) (fun x hx => pX10_isAnywhere_ok (h := xw [(10, b0, f0, s0), (0, b1, f1, s1), (3, b2, f2, s2)] h) (f0 := f0) (f1 := f1) (f2 := f2) (xok_sub ho [0, 1, 2] rfl (by decide)) hq_0_7 hq_0_8 s0 s1 s2 a2 x hx) rfl (fun x6 _ => ?_)
          refine s_if_neB (tgt := 121) (pc := 116) dX10_alter_116 (by decide) (fun _ => ?_) (fun _ => ?_)
          · refine s_aload_n (pc := 121) 0 dX10_alter_121 rfl ?_
            refine xg_X10_9 0 ho rfl (pc := 122) dX10_alter_122 rfl ?_
            refine s_iload_n (pc := 125) 2 dX10_alter_125 rfl ?_
            refine s_aload_n (pc := 126) 0 dX10_alter_126 rfl ?_
            refine xg_X10_37 0 ho rfl (pc := 127) dX10_alter_127 rfl hq_0_7 ?_
            refine s_aload_n (pc := 130) 0 dX10_alter_130 rfl ?_
            refine xg_X10_9 0 ho rfl (pc := 131) dX10_alter_131 rfl ?_
            refine s_iload_n (pc := 134) 2 dX10_alter_134 rfl ?_
            refine xl_10_0 0 ho rfl (pc := 135) dX10_alter_135 ?_
            refine s_iload_n (pc := 136) 3 dX10_alter_136 rfl ?_
            refine x_callV (M := MX10_alter) (L := [(10, b0, f0, s0), (0, b1, f1, s1), (3, b2, f2, s2)]) (h := h) (j := 1) (As := [.int (s0.2.2.1 0 a1.toNatClampNeg), .int a2]) (st := [.int a1, .ref (b0 + 1)]) (A := fun (x : Int32) => some (.int x)) (Lc := [(0, b1, f1, s1)]) (Lr := fun (x : Int32) => [(0, b1, f1, s1)]) (L2 := fun (x : Int32) => [(10, b0, f0, s0), (0, b1, f1, s1), (3, b2, f2, s2)]) cv_X10_146 (by decide) (pc := 137) dX10_alter_137 ho rfl xc0_0 rfl rfl (Nat.le_of_ble_eq_true rfl) (xovs (L := [(10, b0, f0, s0), (0, b1, f1, s1), (3, b2, f2, s2)]) (h := h) [(1, (0, b1, f1, s1))] ho ⟨rfl, trivial⟩).1 (fun x => (xovs (L := [(10, b0, f0, s0), (0, b1, f1, s1), (3, b2, f2, s2)]) (h := h) [(1, (0, b1, f1, s1))] ho ⟨rfl, trivial⟩).1) (fun x hx => pX0_including_ok (h := xw [(10, b0, f0, s0), (0, b1, f1, s1), (3, b2, f2, s2)] h) (f0 := f1) (xok_sub ho [1] rfl (by decide)) s1 (s0.2.2.1 0 a1.toNatClampNeg) a2 x hx) rfl (fun x7 _ => ?_)
            refine xs_10_0 (L' := fun s_8 => [(10, b0, f0, s_8), (0, b1, f1, s1), (3, b2, f2, s2)]) 0 ho rfl (fun _ => rfl) (pc := 140) dX10_alter_140 (fun s_8 => ?_)
            refine s_iconst (v := 1) (pc := 141) dX10_alter_141 (by decide) ?_
            exact s_zretB (b := true) (pc := 142) dX10_alter_142 rfl (fun _ _ q => q)
          · refine s_iconst (v := 0) (pc := 119) dX10_alter_119 (by decide) ?_
            exact s_zretB (b := false) (pc := 120) dX10_alter_120 rfl (fun _ _ q => q)
    · refine s_iconst (v := 0) (pc := 22) dX10_alter_22 (by decide) ?_
      exact s_zretB (b := false) (pc := 23) dX10_alter_23 rfl (fun _ _ q => q)
  · refine s_iconst (v := 0) (pc := 22) dX10_alter_22 (by decide) ?_
    exact s_zretB (b := false) (pc := 23) dX10_alter_23 rfl (fun _ _ q => q)
theorem pX10_alter_ok (ho : xok [(10, b0), (0, b1), (3, b2)] h.2.1) (hq_0_7 : f0 7 = some b1) (hq_0_8 : f0 8 = some b2) (s0 : RS) (s1 : RS) (s2 : RS) (a0 : Int32) (a1 : Int32) (a2 : Int32) : ∀ x, pX10_alter s0 s1 s2 a0 a1 a2 = some x → aMet l 2 yX10_alter cX10_alter 4 (some .boolean) [.ref b0, .int a0, .int a1, .int a2] (xw [(10, b0, f0, s0), (0, b1, f1, s1), (3, b2, f2, s2)] h) (some (.int (b2i x.1))) (xw [(10, b0, f0, x.2), (0, b1, f1, s1), (3, b2, f2, s2)] h) := fun x hx => a_meth (ini := false) (y := yX10_alter) (by decide +kernel) (fun q => by cases q) (fun _ => Nat.le_of_ble_eq_true rfl) (pX10_alter_w ho hq_0_7 hq_0_8 s0 s1 s2 a0 a1 a2) x hx _ _ ⟨rfl, rfl⟩
end
section
variable {l : Launch} {n0 S0 : Nat} {h : aH} {b0 b1 b2 : Nat} {f0 f1 f2 : Nat → Option Nat}
abbrev MX10_draw : aM := (cX10_draw, RX10, 4, none, false)
def X10_draw_x65 (l : Launch) (n0 S0 : Nat) (h : aH) (b0 : Nat) (b1 : Nat) (b2 : Nat) (f0 : Nat → Option Nat) (f1 : Nat → Option Nat) (f2 : Nat → Option Nat) (v2 : Int32) (s1 : RS) (s2 : RS) : RS → Option Value → aH → Prop := fun (x : RS) r h' => aEv l 0 MX10_draw n0 S0 117 [] [] (xw [(10, b0, f0, x), (0, b1, f1, s1), (3, b2, f2, s2)] h) r h'
def X10_draw_b65 (v2 : Int32) (v3 : Int32) (s0 : RS) (s1 : RS) (s2 : RS) : Option ((Int32 × RS) ⊕ RS) :=
  if v3 ≤ 0 then
    some (.inr s0)
  else
    if (s0.1 6) ≤ 0 then
      some (.inr s0)
    else
      g_in ((s0.1 6) - (1 : Int32)) 20 (
      if (s0.2.2.1 14 ((s0.1 6) - (1 : Int32)).toNatClampNeg) = v2 then
        thn (uI s0 6 ((s0.1 6) - (1 : Int32))) fun s_3 =>
        thn (uI s_3 5 ((s_3.1 5) + (1 : Int32))) fun s_4 =>
        thn (v3 + (-1)) fun x5 =>
        some (.inl (x5, s_4))
      else
        some (.inr s0))
theorem X10_draw_b65_ok (ho : xok [(10, b0), (0, b1), (3, b2)] h.2.1) (hq_0_7 : f0 7 = some b1) (hq_0_8 : f0 8 = some b2) (v2 : Int32) (v3 : Int32) (s0 : RS) (s1 : RS) (s2 : RS) : aS l 0 MX10_draw n0 S0 (a_LΦ (X10_draw_x65 l n0 S0 h b0 b1 b2 f0 f1 f2 v2 s1 s2) l 0 MX10_draw n0 S0 65 (fun (q : Int32 × RS) => [(0, .ref b0), (2, .int v2), (3, .int q.1)]) (fun _ => []) (fun (q : Int32 × RS) => xw [(10, b0, f0, q.2), (0, b1, f1, s1), (3, b2, f2, s2)] h)) 65 [(0, .ref b0), (2, .int v2), (3, .int v3)] [] (xw [(10, b0, f0, s0), (0, b1, f1, s1), (3, b2, f2, s2)] h) (X10_draw_b65 v2 v3 s0 s1 s2) := by
  unfold X10_draw_b65
  refine s_iload_n (pc := 65) 2 dX10_draw_65 rfl ?_
  refine s_if_le (tgt := 117) (pc := 66) dX10_draw_66 (by decide) (fun _ => ?_) (fun _ => ?_)
  · refine s_sub [] rfl ?_
    exact s_ev (fun _ _ q => q)
  · refine s_aload_n (pc := 69) 0 dX10_draw_69 rfl ?_
    refine xg_X10_31 0 ho rfl (pc := 70) dX10_draw_70 rfl ?_
    refine s_if_le (tgt := 117) (pc := 73) dX10_draw_73 (by decide) (fun _ => ?_) (fun _ => ?_)
    · refine s_sub [] rfl ?_
      exact s_ev (fun _ _ q => q)
    · refine s_aload_n (pc := 76) 0 dX10_draw_76 rfl ?_
      refine xg_X10_63 0 ho rfl (pc := 77) dX10_draw_77 rfl ?_
      refine s_aload_n (pc := 80) 0 dX10_draw_80 rfl ?_
      refine xg_X10_31 0 ho rfl (pc := 81) dX10_draw_81 rfl ?_
      refine s_iconst (v := 1) (pc := 84) dX10_draw_84 (by decide) ?_
      refine s_isub (pc := 85) dX10_draw_85 ?_
      refine xl_10_14 0 ho rfl (pc := 86) dX10_draw_86 ?_
      refine s_iload_n (pc := 87) 1 dX10_draw_87 rfl ?_
      refine s_icmp_ne (tgt := 117) (pc := 88) dX10_draw_88 (by decide) (fun _ => ?_) (fun _ => ?_)
      · refine s_aload_n (pc := 91) 0 dX10_draw_91 rfl ?_
        refine s_dup (pc := 92) dX10_draw_92 rfl ?_
        refine xg_X10_31 0 ho rfl (pc := 93) dX10_draw_93 rfl ?_
        refine s_iconst (v := 1) (pc := 96) dX10_draw_96 (by decide) ?_
        refine s_isub (pc := 97) dX10_draw_97 ?_
        refine xp_X10_31 (L' := fun s_3 => [(10, b0, f0, s_3), (0, b1, f1, s1), (3, b2, f2, s2)]) 0 ho rfl (fun _ => rfl) (pc := 98) dX10_draw_98 rfl (fun s_3 => ?_)
        refine s_aload_n (pc := 101) 0 dX10_draw_101 rfl ?_
        refine s_dup (pc := 102) dX10_draw_102 rfl ?_
        refine xg_X10_28 0 ho rfl (pc := 103) dX10_draw_103 rfl ?_
        refine s_iconst (v := 1) (pc := 106) dX10_draw_106 (by decide) ?_
        refine s_iadd (pc := 107) dX10_draw_107 ?_
        refine xp_X10_28 (L' := fun s_4 => [(10, b0, f0, s_4), (0, b1, f1, s1), (3, b2, f2, s2)]) 0 ho rfl (fun _ => rfl) (pc := 108) dX10_draw_108 rfl (fun s_4 => ?_)
        refine s_iincT (pc := 111) 2 (lv' := fun x5 => [(3, .int x5), (0, .ref b0), (2, .int v2)]) dX10_draw_111 rfl rfl (by decide) (fun _ => rfl) (fun x5 => ?_)
        refine s_goto (tgt := 65) (pc := 114) dX10_draw_114 (by decide) ?_
        refine s_sub [1, 2, 0] rfl ?_
        exact s_ev (fun _ _ q => q)
      · refine s_sub [] rfl ?_
        exact s_ev (fun _ _ q => q)
def pX10_draw (s0 : RS) (s1 : RS) (s2 : RS) (a0 : Int32) : Option RS :=
  thn (uI s0 9 ((((s0.1 9) * (2749 : Int32)) + (9733 : Int32)) - (((s0.1 9) * (2749 : Int32)) + (9733 : Int32)) / (65536 : Int32) * (65536 : Int32))) fun s_1 =>
  if a0 ≤ (((s_1.1 9) / (8 : Int32)) - ((s_1.1 9) / (8 : Int32)) / (16 : Int32) * (16 : Int32)) then
    some s_1
  else
    if (s_1.1 6) ≤ 0 then
      some s_1
    else
      if (s_1.1 6) ≤ (20 : Int32) then
        g_in ((s_1.1 6) - (1 : Int32)) 20 (
        thn (s_1.2.2.1 14 ((s_1.1 6) - (1 : Int32)).toNatClampNeg) fun x2 =>
        (a_loop (fun (q : Int32 × RS) => X10_draw_b65 x2 q.1 q.2 s1 s2) FU ((20 : Int32), s_1)).bind fun (t6 : RS) =>
          some t6)
      else
        some s_1
theorem pX10_draw_w (ho : xok [(10, b0), (0, b1), (3, b2)] h.2.1) (hq_0_7 : f0 7 = some b1) (hq_0_8 : f0 8 = some b2) (s0 : RS) (s1 : RS) (s2 : RS) (a0 : Int32) : aS l 0 MX10_draw n0 S0 (oΦ (fun (x : RS) => (none, xw [(10, b0, f0, x), (0, b1, f1, s1), (3, b2, f2, s2)] h))) 0 [(0, .ref b0), (1, .int a0)] [] (xw [(10, b0, f0, s0), (0, b1, f1, s1), (3, b2, f2, s2)] h) (pX10_draw s0 s1 s2 a0) := by
  unfold pX10_draw
  refine s_aload_n (pc := 0) 0 dX10_draw_0 rfl ?_
  refine s_aload_n (pc := 1) 0 dX10_draw_1 rfl ?_
  refine xg_X10_48 0 ho rfl (pc := 2) dX10_draw_2 rfl ?_
  refine s_sipush (v := 2749) (pc := 5) dX10_draw_5 (by decide) ?_
  refine s_imul (pc := 8) dX10_draw_8 ?_
  refine s_sipush (v := 9733) (pc := 9) dX10_draw_9 (by decide) ?_
  refine s_iadd (pc := 12) dX10_draw_12 ?_
  refine s_ldc (v := 65536) (pc := 13) dX10_draw_13 wk_X10_164 ?_
  refine s_iremC (pc := 15) dX10_draw_15 (by decide) ?_
  refine xp_X10_48 (L' := fun s_1 => [(10, b0, f0, s_1), (0, b1, f1, s1), (3, b2, f2, s2)]) 0 ho rfl (fun _ => rfl) (pc := 16) dX10_draw_16 rfl (fun s_1 => ?_)
  refine s_aload_n (pc := 19) 0 dX10_draw_19 rfl ?_
  refine xg_X10_48 0 ho rfl (pc := 20) dX10_draw_20 rfl ?_
  refine s_bipush (v := 8) (pc := 23) dX10_draw_23 (by decide) ?_
  refine s_idivC (pc := 25) dX10_draw_25 (by decide) ?_
  refine s_bipush (v := 16) (pc := 26) dX10_draw_26 (by decide) ?_
  refine s_iremC (pc := 28) dX10_draw_28 (by decide) ?_
  refine s_iload_n (pc := 29) 1 dX10_draw_29 rfl ?_
  refine s_icmp_ge (tgt := 49) (pc := 30) dX10_draw_30 (by decide) (fun _ => ?_) (fun _ => ?_)
  · exact s_vret (pc := 49) dX10_draw_49 rfl (fun _ _ q => q)
  · refine s_aload_n (pc := 33) 0 dX10_draw_33 rfl ?_
    refine xg_X10_31 0 ho rfl (pc := 34) dX10_draw_34 rfl ?_
    refine s_if_le (tgt := 49) (pc := 37) dX10_draw_37 (by decide) (fun _ => ?_) (fun _ => ?_)
    · exact s_vret (pc := 49) dX10_draw_49 rfl (fun _ _ q => q)
    · refine s_aload_n (pc := 40) 0 dX10_draw_40 rfl ?_
      refine xg_X10_31 0 ho rfl (pc := 41) dX10_draw_41 rfl ?_
      refine s_bipush (v := 20) (pc := 44) dX10_draw_44 (by decide) ?_
      refine s_icmp_le (tgt := 50) (pc := 46) dX10_draw_46 (by decide) (fun _ => ?_) (fun _ => ?_)
      · refine s_aload_n (pc := 50) 0 dX10_draw_50 rfl ?_
        refine xg_X10_63 0 ho rfl (pc := 51) dX10_draw_51 rfl ?_
        refine s_aload_n (pc := 54) 0 dX10_draw_54 rfl ?_
        refine xg_X10_31 0 ho rfl (pc := 55) dX10_draw_55 rfl ?_
        refine s_iconst (v := 1) (pc := 58) dX10_draw_58 (by decide) ?_
        refine s_isub (pc := 59) dX10_draw_59 ?_
        refine xl_10_14 0 ho rfl (pc := 60) dX10_draw_60 ?_
        refine s_istore_nT (lv' := fun x2 => [(2, .int x2), (0, .ref b0), (1, .int a0)]) (pc := 61) dX10_draw_61 (by decide) (fun _ => rfl) (fun x2 => ?_)
        refine s_bipush (v := 20) (pc := 62) dX10_draw_62 (by decide) ?_
        refine s_istore_n (lv' := [(3, .int 20), (2, .int x2), (0, .ref b0), (1, .int a0)]) (pc := 64) dX10_draw_64 (by decide) rfl ?_
        refine s_bind (Ψ := X10_draw_x65 l n0 S0 h b0 b1 b2 f0 f1 f2 x2 s1 s2) ?_ ?_
        · refine s_sub [2, 1, 0] rfl ?_
          exact s_loop (lvf := fun (q : Int32 × RS) => [(0, .ref b0), (2, .int x2), (3, .int q.1)]) (stf := fun _ => []) (hf := fun (q : Int32 × RS) => xw [(10, b0, f0, q.2), (0, b1, f1, s1), (3, b2, f2, s2)] h) (fun q => X10_draw_b65_ok ho hq_0_7 hq_0_8 x2 q.1 q.2 s1 s2) FU ((20 : Int32), s_1)
        · intro t6 z r h' hz hr
          refine (?_ : aS l 0 MX10_draw n0 S0 (oΦ (fun (x : RS) => (none, xw [(10, b0, f0, x), (0, b1, f1, s1), (3, b2, f2, s2)] h))) 117 [] [] (xw [(10, b0, f0, t6), (0, b1, f1, s1), (3, b2, f2, s2)] h) _) z hz r h' hr
          exact s_vret (pc := 117) dX10_draw_117 rfl (fun _ _ q => q)
      · exact s_vret (pc := 49) dX10_draw_49 rfl (fun _ _ q => q)
theorem pX10_draw_ok (ho : xok [(10, b0), (0, b1), (3, b2)] h.2.1) (hq_0_7 : f0 7 = some b1) (hq_0_8 : f0 8 = some b2) (s0 : RS) (s1 : RS) (s2 : RS) (a0 : Int32) : ∀ x, pX10_draw s0 s1 s2 a0 = some x → aMet l 0 yX10_draw cX10_draw 4 none [.ref b0, .int a0] (xw [(10, b0, f0, s0), (0, b1, f1, s1), (3, b2, f2, s2)] h) none (xw [(10, b0, f0, x), (0, b1, f1, s1), (3, b2, f2, s2)] h) := fun x hx => a_meth (ini := false) (y := yX10_draw) (by decide +kernel) (fun q => by cases q) (fun _ => Nat.le_of_ble_eq_true rfl) (pX10_draw_w ho hq_0_7 hq_0_8 s0 s1 s2 a0) x hx _ _ ⟨rfl, rfl⟩
end
section
variable {l : Launch} {n0 S0 : Nat} {h : aH} {b0 b1 b2 : Nat} {f0 f1 f2 : Nat → Option Nat}
abbrev MX10_land : aM := (cX10_land, RX10, 3, none, false)
def X10_land_j21 (s0 : RS) (s1 : RS) (s2 : RS) : Option RS :=
  thn (uI s0 4 ((s0.1 4) + (1 : Int32))) fun s_2 =>
  some s_2
theorem X10_land_j21_ok (ho : xok [(10, b0), (0, b1), (3, b2)] h.2.1) (hq_0_7 : f0 7 = some b1) (hq_0_8 : f0 8 = some b2) (s0 : RS) (s1 : RS) (s2 : RS) : aS l 1 MX10_land n0 S0 (oΦ (fun (x : RS) => (none, xw [(10, b0, f0, x), (0, b1, f1, s1), (3, b2, f2, s2)] h))) 21 [(0, .ref b0)] [] (xw [(10, b0, f0, s0), (0, b1, f1, s1), (3, b2, f2, s2)] h) (X10_land_j21 s0 s1 s2) := by
  unfold X10_land_j21
  refine s_aload_n (pc := 21) 0 dX10_land_21 rfl ?_
  refine s_dup (pc := 22) dX10_land_22 rfl ?_
  refine xg_X10_25 0 ho rfl (pc := 23) dX10_land_23 rfl ?_
  refine s_iconst (v := 1) (pc := 26) dX10_land_26 (by decide) ?_
  refine s_iadd (pc := 27) dX10_land_27 ?_
  refine xp_X10_25 (L' := fun s_2 => [(10, b0, f0, s_2), (0, b1, f1, s1), (3, b2, f2, s2)]) 0 ho rfl (fun _ => rfl) (pc := 28) dX10_land_28 rfl (fun s_2 => ?_)
  exact s_vret (pc := 31) dX10_land_31 rfl (fun _ _ q => q)
def pX10_land (s0 : RS) (s1 : RS) (s2 : RS) (a0 : Int32) (a1 : Int32) : Option RS :=
  (pX0_isIsland s1 a1).bind fun x1 =>
  if x1 = true then
    g_in a1 4 (
    g_in a1 4 (thn (uA s0 0 (upd (s0.2.2.1 0) a1.toNatClampNeg ((s0.2.2.1 0 a1.toNatClampNeg) ||| a0))) fun s_3 =>
    X10_land_j21 s_3 s1 s2))
  else
    X10_land_j21 s0 s1 s2
theorem pX10_land_w (ho : xok [(10, b0), (0, b1), (3, b2)] h.2.1) (hq_0_7 : f0 7 = some b1) (hq_0_8 : f0 8 = some b2) (s0 : RS) (s1 : RS) (s2 : RS) (a0 : Int32) (a1 : Int32) : aS l 1 MX10_land n0 S0 (oΦ (fun (x : RS) => (none, xw [(10, b0, f0, x), (0, b1, f1, s1), (3, b2, f2, s2)] h))) 0 [(0, .ref b0), (1, .int a0), (2, .int a1)] [] (xw [(10, b0, f0, s0), (0, b1, f1, s1), (3, b2, f2, s2)] h) (pX10_land s0 s1 s2 a0 a1) := by
  unfold pX10_land
  refine s_aload_n (pc := 0) 0 dX10_land_0 rfl ?_
  refine xg_X10_37 0 ho rfl (pc := 1) dX10_land_1 rfl hq_0_7 ?_
  refine s_iload_n (pc := 4) 2 dX10_land_4 rfl ?_
  refine x_callV (M := MX10_land) (L := [(10, b0, f0, s0), (0, b1, f1, s1), (3, b2, f2, s2)]) (h := h) (j := 1) (As := [.int a1]) (st := []) (A := fun (x : Bool) => some (.int (b2i x))) (Lc := [(0, b1, f1, s1)]) (Lr := fun (x : Bool) => [(0, b1, f1, s1)]) (L2 := fun (x : Bool) => [(10, b0, f0, s0), (0, b1, f1, s1), (3, b2, f2, s2)]) cv_X10_106 (by decide) (pc := 5) dX10_land_5 ho rfl xc0_0 rfl rfl (Nat.le_of_ble_eq_true rfl) (xovs (L := [(10, b0, f0, s0), (0, b1, f1, s1), (3, b2, f2, s2)]) (h := h) [(1, (0, b1, f1, s1))] ho ⟨rfl, trivial⟩).1 (fun x => (xovs (L := [(10, b0, f0, s0), (0, b1, f1, s1), (3, b2, f2, s2)]) (h := h) [(1, (0, b1, f1, s1))] ho ⟨rfl, trivial⟩).1) (fun x hx => pX0_isIsland_ok (h := xw [(10, b0, f0, s0), (0, b1, f1, s1), (3, b2, f2, s2)] h) (f0 := f1) (xok_sub ho [1] rfl (by decide)) s1 a1 x hx) rfl (fun x1 _ => ?_)
  refine s_if_eqB (tgt := 21) (pc := 8) dX10_land_8 (by decide) (fun _ => ?_) (fun _ => ?_)
  · refine s_aload_n (pc := 11) 0 dX10_land_11 rfl ?_
    refine xg_X10_9 0 ho rfl (pc := 12) dX10_land_12 rfl ?_
    refine s_iload_n (pc := 15) 2 dX10_land_15 rfl ?_
    refine s_dup2_11 (pc := 16) dX10_land_16 rfl rfl ?_
    refine xl_10_0 0 ho rfl (pc := 17) dX10_land_17 ?_
    refine s_iload_n (pc := 18) 1 dX10_land_18 rfl ?_
    refine s_ior (pc := 19) dX10_land_19 ?_
    refine xs_10_0 (L' := fun s_3 => [(10, b0, f0, s_3), (0, b1, f1, s1), (3, b2, f2, s2)]) 0 ho rfl (fun _ => rfl) (pc := 20) dX10_land_20 (fun s_3 => ?_)
    refine s_sub [0] rfl ?_
    exact X10_land_j21_ok ho hq_0_7 hq_0_8 s_3 s1 s2
  · refine s_sub [0] rfl ?_
    exact X10_land_j21_ok ho hq_0_7 hq_0_8 s0 s1 s2
theorem pX10_land_ok (ho : xok [(10, b0), (0, b1), (3, b2)] h.2.1) (hq_0_7 : f0 7 = some b1) (hq_0_8 : f0 8 = some b2) (s0 : RS) (s1 : RS) (s2 : RS) (a0 : Int32) (a1 : Int32) : ∀ x, pX10_land s0 s1 s2 a0 a1 = some x → aMet l 1 yX10_land cX10_land 3 none [.ref b0, .int a0, .int a1] (xw [(10, b0, f0, s0), (0, b1, f1, s1), (3, b2, f2, s2)] h) none (xw [(10, b0, f0, x), (0, b1, f1, s1), (3, b2, f2, s2)] h) := fun x hx => a_meth (ini := false) (y := yX10_land) (by decide +kernel) (fun q => by cases q) (fun _ => Nat.le_of_ble_eq_true rfl) (pX10_land_w ho hq_0_7 hq_0_8 s0 s1 s2 a0 a1) x hx _ _ ⟨rfl, rfl⟩
end
section
variable {l : Launch} {n0 S0 : Nat} {h : aH} {b0 b1 b2 : Nat} {f0 f1 f2 : Nat → Option Nat}
abbrev MX10_moveCargo : aM := (cX10_moveCargo, RX10, 3, none, false)
def pX10_moveCargo (s0 : RS) (s1 : RS) (s2 : RS) (a0 : Int32) (a1 : Int32) : Option RS :=
  g_in a0 20 (
  g_in a1 20 (thn (uA s0 11 (upd (s0.2.2.1 11) a1.toNatClampNeg (s0.2.2.1 11 a0.toNatClampNeg))) fun s_1 =>
  g_in a0 20 (
  g_in a1 20 (thn (uA s_1 12 (upd (s_1.2.2.1 12) a1.toNatClampNeg (s_1.2.2.1 12 a0.toNatClampNeg))) fun s_2 =>
  g_in a0 20 (
  g_in a1 20 (thn (uA s_2 13 (upd (s_2.2.2.1 13) a1.toNatClampNeg (s_2.2.2.1 13 a0.toNatClampNeg))) fun s_3 =>
  g_in a0 20 (
  g_in a1 20 (thn (uA s_3 14 (upd (s_3.2.2.1 14) a1.toNatClampNeg (s_3.2.2.1 14 a0.toNatClampNeg))) fun s_4 =>
  some s_4))))))))
theorem pX10_moveCargo_w (ho : xok [(10, b0), (0, b1), (3, b2)] h.2.1) (hq_0_7 : f0 7 = some b1) (hq_0_8 : f0 8 = some b2) (s0 : RS) (s1 : RS) (s2 : RS) (a0 : Int32) (a1 : Int32) : aS l 0 MX10_moveCargo n0 S0 (oΦ (fun (x : RS) => (none, xw [(10, b0, f0, x), (0, b1, f1, s1), (3, b2, f2, s2)] h))) 0 [(0, .ref b0), (1, .int a0), (2, .int a1)] [] (xw [(10, b0, f0, s0), (0, b1, f1, s1), (3, b2, f2, s2)] h) (pX10_moveCargo s0 s1 s2 a0 a1) := by
  unfold pX10_moveCargo
  refine s_aload_n (pc := 0) 0 dX10_moveCargo_0 rfl ?_
  refine xg_X10_54 0 ho rfl (pc := 1) dX10_moveCargo_1 rfl ?_
  refine s_iload_n (pc := 4) 2 dX10_moveCargo_4 rfl ?_
  refine s_aload_n (pc := 5) 0 dX10_moveCargo_5 rfl ?_
  refine xg_X10_54 0 ho rfl (pc := 6) dX10_moveCargo_6 rfl ?_
  refine s_iload_n (pc := 9) 1 dX10_moveCargo_9 rfl ?_
  refine xl_10_11 0 ho rfl (pc := 10) dX10_moveCargo_10 ?_
  refine xs_10_11 (L' := fun s_1 => [(10, b0, f0, s_1), (0, b1, f1, s1), (3, b2, f2, s2)]) 0 ho rfl (fun _ => rfl) (pc := 11) dX10_moveCargo_11 (fun s_1 => ?_)
  refine s_aload_n (pc := 12) 0 dX10_moveCargo_12 rfl ?_
  refine xg_X10_57 0 ho rfl (pc := 13) dX10_moveCargo_13 rfl ?_
  refine s_iload_n (pc := 16) 2 dX10_moveCargo_16 rfl ?_
  refine s_aload_n (pc := 17) 0 dX10_moveCargo_17 rfl ?_
  refine xg_X10_57 0 ho rfl (pc := 18) dX10_moveCargo_18 rfl ?_
  refine s_iload_n (pc := 21) 1 dX10_moveCargo_21 rfl ?_
  refine xl_10_12 0 ho rfl (pc := 22) dX10_moveCargo_22 ?_
  refine xs_10_12 (L' := fun s_2 => [(10, b0, f0, s_2), (0, b1, f1, s1), (3, b2, f2, s2)]) 0 ho rfl (fun _ => rfl) (pc := 23) dX10_moveCargo_23 (fun s_2 => ?_)
  refine s_aload_n (pc := 24) 0 dX10_moveCargo_24 rfl ?_
  refine xg_X10_60 0 ho rfl (pc := 25) dX10_moveCargo_25 rfl ?_
  refine s_iload_n (pc := 28) 2 dX10_moveCargo_28 rfl ?_
  refine s_aload_n (pc := 29) 0 dX10_moveCargo_29 rfl ?_
  refine xg_X10_60 0 ho rfl (pc := 30) dX10_moveCargo_30 rfl ?_
  refine s_iload_n (pc := 33) 1 dX10_moveCargo_33 rfl ?_
  refine xl_10_13 0 ho rfl (pc := 34) dX10_moveCargo_34 ?_
  refine xs_10_13 (L' := fun s_3 => [(10, b0, f0, s_3), (0, b1, f1, s1), (3, b2, f2, s2)]) 0 ho rfl (fun _ => rfl) (pc := 35) dX10_moveCargo_35 (fun s_3 => ?_)
  refine s_aload_n (pc := 36) 0 dX10_moveCargo_36 rfl ?_
  refine xg_X10_63 0 ho rfl (pc := 37) dX10_moveCargo_37 rfl ?_
  refine s_iload_n (pc := 40) 2 dX10_moveCargo_40 rfl ?_
  refine s_aload_n (pc := 41) 0 dX10_moveCargo_41 rfl ?_
  refine xg_X10_63 0 ho rfl (pc := 42) dX10_moveCargo_42 rfl ?_
  refine s_iload_n (pc := 45) 1 dX10_moveCargo_45 rfl ?_
  refine xl_10_14 0 ho rfl (pc := 46) dX10_moveCargo_46 ?_
  refine xs_10_14 (L' := fun s_4 => [(10, b0, f0, s_4), (0, b1, f1, s1), (3, b2, f2, s2)]) 0 ho rfl (fun _ => rfl) (pc := 47) dX10_moveCargo_47 (fun s_4 => ?_)
  exact s_vret (pc := 48) dX10_moveCargo_48 rfl (fun _ _ q => q)
theorem pX10_moveCargo_ok (ho : xok [(10, b0), (0, b1), (3, b2)] h.2.1) (hq_0_7 : f0 7 = some b1) (hq_0_8 : f0 8 = some b2) (s0 : RS) (s1 : RS) (s2 : RS) (a0 : Int32) (a1 : Int32) : ∀ x, pX10_moveCargo s0 s1 s2 a0 a1 = some x → aMet l 0 yX10_moveCargo cX10_moveCargo 3 none [.ref b0, .int a0, .int a1] (xw [(10, b0, f0, s0), (0, b1, f1, s1), (3, b2, f2, s2)] h) none (xw [(10, b0, f0, x), (0, b1, f1, s1), (3, b2, f2, s2)] h) := fun x hx => a_meth (ini := false) (y := yX10_moveCargo) (by decide +kernel) (fun q => by cases q) (fun _ => Nat.le_of_ble_eq_true rfl) (pX10_moveCargo_w ho hq_0_7 hq_0_8 s0 s1 s2 a0 a1) x hx _ _ ⟨rfl, rfl⟩
end
section
variable {l : Launch} {n0 S0 : Nat} {h : aH} {b0 b1 b2 : Nat} {f0 f1 f2 : Nat → Option Nat}
abbrev MX10_landDue : aM := (cX10_landDue, RX10, 3, none, false)
def X10_landDue_x4 (l : Launch) (n0 S0 : Nat) (h : aH) (b0 : Nat) (b1 : Nat) (b2 : Nat) (f0 : Nat → Option Nat) (f1 : Nat → Option Nat) (f2 : Nat → Option Nat) (s1 : RS) (s2 : RS) : (Int32 × RS) → Option Value → aH → Prop := fun (x : Int32 × RS) r h' => aEv l 2 MX10_landDue n0 S0 65 [(0, .ref b0), (1, .int x.1)] [] (xw [(10, b0, f0, x.2), (0, b1, f1, s1), (3, b2, f2, s2)] h) r h'
def X10_landDue_j59 (v1 : Int32) (v2 : Int32) (s0 : RS) (s1 : RS) (s2 : RS) : Option ((Int32 × Int32 × RS) ⊕ (Int32 × RS)) :=
  thn (v2 + 1) fun x3 =>
  some (.inl (v1, x3, s0))
theorem X10_landDue_j59_ok (ho : xok [(10, b0), (0, b1), (3, b2)] h.2.1) (hq_0_7 : f0 7 = some b1) (hq_0_8 : f0 8 = some b2) (v1 : Int32) (v2 : Int32) (s0 : RS) (s1 : RS) (s2 : RS) : aS l 2 MX10_landDue n0 S0 (a_LΦ (X10_landDue_x4 l n0 S0 h b0 b1 b2 f0 f1 f2 s1 s2) l 2 MX10_landDue n0 S0 4 (fun (q : Int32 × Int32 × RS) => [(0, .ref b0), (1, .int q.1), (2, .int q.2.1)]) (fun _ => []) (fun (q : Int32 × Int32 × RS) => xw [(10, b0, f0, q.2.2), (0, b1, f1, s1), (3, b2, f2, s2)] h)) 59 [(0, .ref b0), (1, .int v1), (2, .int v2)] [] (xw [(10, b0, f0, s0), (0, b1, f1, s1), (3, b2, f2, s2)] h) (X10_landDue_j59 v1 v2 s0 s1 s2) := by
  unfold X10_landDue_j59
  refine s_iincT (pc := 59) 2 (lv' := fun x3 => [(2, .int x3), (0, .ref b0), (1, .int v1)]) dX10_landDue_59 rfl rfl (by decide) (fun _ => rfl) (fun x3 => ?_)
  refine s_goto (tgt := 4) (pc := 62) dX10_landDue_62 (by decide) ?_
  refine s_sub [1, 2, 0] rfl ?_
  exact s_ev (fun _ _ q => q)
def X10_landDue_b4 (v1 : Int32) (v2 : Int32) (s0 : RS) (s1 : RS) (s2 : RS) : Option ((Int32 × Int32 × RS) ⊕ (Int32 × RS)) :=
  if (s0.1 6) ≤ v2 then
    some (.inr (v1, s0))
  else
    if (20 : Int32) ≤ v2 then
      some (.inr (v1, s0))
    else
      g_in v2 20 (
      if (s0.1 2) < (s0.2.2.1 13 v2.toNatClampNeg) then
        (pX10_moveCargo s0 s1 s2 v2 v1).bind fun x1 =>
        thn (v1 + 1) fun x2 =>
        X10_landDue_j59 x2 v2 x1 s1 s2
      else
        g_in v2 20 (
        g_in v2 20 (
        (pX10_land s0 s1 s2 (s0.2.2.1 11 v2.toNatClampNeg) (s0.2.2.1 12 v2.toNatClampNeg)).bind fun x4 =>
        X10_landDue_j59 v1 v2 x4 s1 s2)))
theorem X10_landDue_b4_ok (ho : xok [(10, b0), (0, b1), (3, b2)] h.2.1) (hq_0_7 : f0 7 = some b1) (hq_0_8 : f0 8 = some b2) (v1 : Int32) (v2 : Int32) (s0 : RS) (s1 : RS) (s2 : RS) : aS l 2 MX10_landDue n0 S0 (a_LΦ (X10_landDue_x4 l n0 S0 h b0 b1 b2 f0 f1 f2 s1 s2) l 2 MX10_landDue n0 S0 4 (fun (q : Int32 × Int32 × RS) => [(0, .ref b0), (1, .int q.1), (2, .int q.2.1)]) (fun _ => []) (fun (q : Int32 × Int32 × RS) => xw [(10, b0, f0, q.2.2), (0, b1, f1, s1), (3, b2, f2, s2)] h)) 4 [(0, .ref b0), (1, .int v1), (2, .int v2)] [] (xw [(10, b0, f0, s0), (0, b1, f1, s1), (3, b2, f2, s2)] h) (X10_landDue_b4 v1 v2 s0 s1 s2) := by
  unfold X10_landDue_b4
  refine s_iload_n (pc := 4) 2 dX10_landDue_4 rfl ?_
  refine s_aload_n (pc := 5) 0 dX10_landDue_5 rfl ?_
  refine xg_X10_31 0 ho rfl (pc := 6) dX10_landDue_6 rfl ?_
  refine s_icmp_ge (tgt := 65) (pc := 9) dX10_landDue_9 (by decide) (fun _ => ?_) (fun _ => ?_)
  · refine s_sub [0, 1] rfl ?_
    exact s_ev (fun _ _ q => q)
  · refine s_iload_n (pc := 12) 2 dX10_landDue_12 rfl ?_
    refine s_bipush (v := 20) (pc := 13) dX10_landDue_13 (by decide) ?_
    refine s_icmp_ge (tgt := 65) (pc := 15) dX10_landDue_15 (by decide) (fun _ => ?_) (fun _ => ?_)
    · refine s_sub [0, 1] rfl ?_
      exact s_ev (fun _ _ q => q)
    · refine s_aload_n (pc := 18) 0 dX10_landDue_18 rfl ?_
      refine xg_X10_60 0 ho rfl (pc := 19) dX10_landDue_19 rfl ?_
      refine s_iload_n (pc := 22) 2 dX10_landDue_22 rfl ?_
      refine xl_10_13 0 ho rfl (pc := 23) dX10_landDue_23 ?_
      refine s_aload_n (pc := 24) 0 dX10_landDue_24 rfl ?_
      refine xg_X10_19 0 ho rfl (pc := 25) dX10_landDue_25 rfl ?_
      refine s_icmp_gt (tgt := 50) (pc := 28) dX10_landDue_28 (by decide) (fun _ => ?_) (fun _ => ?_)
      · refine s_aload_n (pc := 50) 0 dX10_landDue_50 rfl ?_
        refine s_iload_n (pc := 51) 2 dX10_landDue_51 rfl ?_
        refine s_iload_n (pc := 52) 1 dX10_landDue_52 rfl ?_
        refine x_callV (M := MX10_landDue) (L := [(10, b0, f0, s0), (0, b1, f1, s1), (3, b2, f2, s2)]) (h := h) (j := 0) (As := [.int v2, .int v1]) (st := []) (A := fun (x : RS) => none) (Lc := [(10, b0, f0, s0), (0, b1, f1, s1), (3, b2, f2, s2)]) (Lr := fun (x : RS) => [(10, b0, f0, x), (0, b1, f1, s1), (3, b2, f2, s2)]) (L2 := fun (x : RS) => [(10, b0, f0, x), (0, b1, f1, s1), (3, b2, f2, s2)]) cv_X10_161 (by decide) (pc := 53) dX10_landDue_53 ho rfl xc0_10 rfl rfl (Nat.le_of_ble_eq_true rfl) (xovs (L := [(10, b0, f0, s0), (0, b1, f1, s1), (3, b2, f2, s2)]) (h := h) [(0, (10, b0, f0, s0)), (1, (0, b1, f1, s1)), (2, (3, b2, f2, s2))] ho ⟨rfl, rfl, rfl, trivial⟩).1 (fun x => (xovs (L := [(10, b0, f0, s0), (0, b1, f1, s1), (3, b2, f2, s2)]) (h := h) [(0, (10, b0, f0, x)), (1, (0, b1, f1, s1)), (2, (3, b2, f2, s2))] ho ⟨rfl, rfl, rfl, trivial⟩).1) (fun x hx => pX10_moveCargo_ok (h := xw [(10, b0, f0, s0), (0, b1, f1, s1), (3, b2, f2, s2)] h) (f0 := f0) (f1 := f1) (f2 := f2) (xok_sub ho [0, 1, 2] rfl (by decide)) hq_0_7 hq_0_8 s0 s1 s2 v2 v1 x hx) rfl (fun x1 _ => ?_)
        refine s_iincT (pc := 56) 1 (lv' := fun x2 => [(1, .int x2), (0, .ref b0), (2, .int v2)]) dX10_landDue_56 rfl rfl (by decide) (fun _ => rfl) (fun x2 => ?_)
        refine s_sub [1, 0, 2] rfl ?_
        exact X10_landDue_j59_ok ho hq_0_7 hq_0_8 x2 v2 x1 s1 s2
      · refine s_aload_n (pc := 31) 0 dX10_landDue_31 rfl ?_
        refine s_aload_n (pc := 32) 0 dX10_landDue_32 rfl ?_
        refine xg_X10_54 0 ho rfl (pc := 33) dX10_landDue_33 rfl ?_
        refine s_iload_n (pc := 36) 2 dX10_landDue_36 rfl ?_
        refine xl_10_11 0 ho rfl (pc := 37) dX10_landDue_37 ?_
        refine s_aload_n (pc := 38) 0 dX10_landDue_38 rfl ?_
        refine xg_X10_57 0 ho rfl (pc := 39) dX10_landDue_39 rfl ?_
        refine s_iload_n (pc := 42) 2 dX10_landDue_42 rfl ?_
        refine xl_10_12 0 ho rfl (pc := 43) dX10_landDue_43 ?_
        refine x_callV (M := MX10_landDue) (L := [(10, b0, f0, s0), (0, b1, f1, s1), (3, b2, f2, s2)]) (h := h) (j := 0) (As := [.int (s0.2.2.1 11 v2.toNatClampNeg), .int (s0.2.2.1 12 v2.toNatClampNeg)]) (st := []) (A := fun (x : RS) => none) (Lc := [(10, b0, f0, s0), (0, b1, f1, s1), (3, b2, f2, s2)]) (Lr := fun (x : RS) => [(10, b0, f0, x), (0, b1, f1, s1), (3, b2, f2, s2)]) (L2 := fun (x : RS) => [(10, b0, f0, x), (0, b1, f1, s1), (3, b2, f2, s2)]) cv_X10_157 (by decide) (pc := 44) dX10_landDue_44 ho rfl xc0_10 rfl rfl (Nat.le_of_ble_eq_true rfl) (xovs (L := [(10, b0, f0, s0), (0, b1, f1, s1), (3, b2, f2, s2)]) (h := h) [(0, (10, b0, f0, s0)), (1, (0, b1, f1, s1)), (2, (3, b2, f2, s2))] ho ⟨rfl, rfl, rfl, trivial⟩).1 (fun x => (xovs (L := [(10, b0, f0, s0), (0, b1, f1, s1), (3, b2, f2, s2)]) (h := h) [(0, (10, b0, f0, x)), (1, (0, b1, f1, s1)), (2, (3, b2, f2, s2))] ho ⟨rfl, rfl, rfl, trivial⟩).1) (fun x hx => pX10_land_ok (h := xw [(10, b0, f0, s0), (0, b1, f1, s1), (3, b2, f2, s2)] h) (f0 := f0) (f1 := f1) (f2 := f2) (xok_sub ho [0, 1, 2] rfl (by decide)) hq_0_7 hq_0_8 s0 s1 s2 (s0.2.2.1 11 v2.toNatClampNeg) (s0.2.2.1 12 v2.toNatClampNeg) x hx) rfl (fun x4 _ => ?_)
        refine s_goto (tgt := 59) (pc := 47) dX10_landDue_47 (by decide) ?_
        exact X10_landDue_j59_ok ho hq_0_7 hq_0_8 v1 v2 x4 s1 s2
def X10_landDue_j65 (v1 : Int32) (s0 : RS) (s1 : RS) (s2 : RS) : Option RS :=
  thn (uI s0 6 v1) fun s_6 =>
  some s_6
theorem X10_landDue_j65_ok (ho : xok [(10, b0), (0, b1), (3, b2)] h.2.1) (hq_0_7 : f0 7 = some b1) (hq_0_8 : f0 8 = some b2) (v1 : Int32) (s0 : RS) (s1 : RS) (s2 : RS) : aS l 2 MX10_landDue n0 S0 (oΦ (fun (x : RS) => (none, xw [(10, b0, f0, x), (0, b1, f1, s1), (3, b2, f2, s2)] h))) 65 [(0, .ref b0), (1, .int v1)] [] (xw [(10, b0, f0, s0), (0, b1, f1, s1), (3, b2, f2, s2)] h) (X10_landDue_j65 v1 s0 s1 s2) := by
  unfold X10_landDue_j65
  refine s_aload_n (pc := 65) 0 dX10_landDue_65 rfl ?_
  refine s_iload_n (pc := 66) 1 dX10_landDue_66 rfl ?_
  refine xp_X10_31 (L' := fun s_6 => [(10, b0, f0, s_6), (0, b1, f1, s1), (3, b2, f2, s2)]) 0 ho rfl (fun _ => rfl) (pc := 67) dX10_landDue_67 rfl (fun s_6 => ?_)
  exact s_vret (pc := 70) dX10_landDue_70 rfl (fun _ _ q => q)
def pX10_landDue (s0 : RS) (s1 : RS) (s2 : RS) : Option RS :=
  (a_loop (fun (q : Int32 × Int32 × RS) => X10_landDue_b4 q.1 q.2.1 q.2.2 s1 s2) FU ((0 : Int32), (0 : Int32), s0)).bind fun (t5 : Int32 × RS) =>
    X10_landDue_j65 t5.1 t5.2 s1 s2
theorem pX10_landDue_w (ho : xok [(10, b0), (0, b1), (3, b2)] h.2.1) (hq_0_7 : f0 7 = some b1) (hq_0_8 : f0 8 = some b2) (s0 : RS) (s1 : RS) (s2 : RS) : aS l 2 MX10_landDue n0 S0 (oΦ (fun (x : RS) => (none, xw [(10, b0, f0, x), (0, b1, f1, s1), (3, b2, f2, s2)] h))) 0 [(0, .ref b0)] [] (xw [(10, b0, f0, s0), (0, b1, f1, s1), (3, b2, f2, s2)] h) (pX10_landDue s0 s1 s2) := by
  unfold pX10_landDue
  refine s_iconst (v := 0) (pc := 0) dX10_landDue_0 (by decide) ?_
  refine s_istore_n (lv' := [(1, .int 0), (0, .ref b0)]) (pc := 1) dX10_landDue_1 (by decide) rfl ?_
  refine s_iconst (v := 0) (pc := 2) dX10_landDue_2 (by decide) ?_
  refine s_istore_n (lv' := [(2, .int 0), (1, .int 0), (0, .ref b0)]) (pc := 3) dX10_landDue_3 (by decide) rfl ?_
  refine s_bind (Ψ := X10_landDue_x4 l n0 S0 h b0 b1 b2 f0 f1 f2 s1 s2) ?_ ?_
  · refine s_sub [2, 1, 0] rfl ?_
    exact s_loop (lvf := fun (q : Int32 × Int32 × RS) => [(0, .ref b0), (1, .int q.1), (2, .int q.2.1)]) (stf := fun _ => []) (hf := fun (q : Int32 × Int32 × RS) => xw [(10, b0, f0, q.2.2), (0, b1, f1, s1), (3, b2, f2, s2)] h) (fun q => X10_landDue_b4_ok ho hq_0_7 hq_0_8 q.1 q.2.1 q.2.2 s1 s2) FU ((0 : Int32), (0 : Int32), s0)
  · intro t5 z r h' hz hr
    refine (?_ : aS l 2 MX10_landDue n0 S0 (oΦ (fun (x : RS) => (none, xw [(10, b0, f0, x), (0, b1, f1, s1), (3, b2, f2, s2)] h))) 65 [(0, .ref b0), (1, .int t5.1)] [] (xw [(10, b0, f0, t5.2), (0, b1, f1, s1), (3, b2, f2, s2)] h) _) z hz r h' hr
    exact X10_landDue_j65_ok ho hq_0_7 hq_0_8 t5.1 t5.2 s1 s2
theorem pX10_landDue_ok (ho : xok [(10, b0), (0, b1), (3, b2)] h.2.1) (hq_0_7 : f0 7 = some b1) (hq_0_8 : f0 8 = some b2) (s0 : RS) (s1 : RS) (s2 : RS) : ∀ x, pX10_landDue s0 s1 s2 = some x → aMet l 2 yX10_landDue cX10_landDue 3 none [.ref b0] (xw [(10, b0, f0, s0), (0, b1, f1, s1), (3, b2, f2, s2)] h) none (xw [(10, b0, f0, x), (0, b1, f1, s1), (3, b2, f2, s2)] h) := fun x hx => a_meth (ini := false) (y := yX10_landDue) (by decide +kernel) (fun q => by cases q) (fun _ => Nat.le_of_ble_eq_true rfl) (pX10_landDue_w ho hq_0_7 hq_0_8 s0 s1 s2) x hx _ _ ⟨rfl, rfl⟩
end
section
variable {l : Launch} {n0 S0 : Nat} {h : aH} {b0 b1 b2 : Nat} {f0 f1 f2 : Nat → Option Nat}
abbrev MX10_addCargo : aM := (cX10_addCargo, RX10, 4, none, false)
def pX10_addCargo (s0 : RS) (s1 : RS) (s2 : RS) (a0 : Int32) (a1 : Int32) (a2 : Int32) : Option RS :=
  if (20 : Int32) ≤ (s0.1 6) then
    some s0
  else
    g_in (s0.1 6) 20 (thn (uA s0 11 (upd (s0.2.2.1 11) (s0.1 6).toNatClampNeg a0)) fun s_1 =>
    g_in (s_1.1 6) 20 (thn (uA s_1 12 (upd (s_1.2.2.1 12) (s_1.1 6).toNatClampNeg a1)) fun s_2 =>
    g_in (s_2.1 6) 20 (thn (uA s_2 13 (upd (s_2.2.2.1 13) (s_2.1 6).toNatClampNeg a2)) fun s_3 =>
    g_in (s_3.1 6) 20 (thn (uA s_3 14 (upd (s_3.2.2.1 14) (s_3.1 6).toNatClampNeg (s_3.1 10))) fun s_4 =>
    thn (uI s_4 6 ((s_4.1 6) + (1 : Int32))) fun s_5 =>
    some s_5))))
theorem pX10_addCargo_w (ho : xok [(10, b0), (0, b1), (3, b2)] h.2.1) (hq_0_7 : f0 7 = some b1) (hq_0_8 : f0 8 = some b2) (s0 : RS) (s1 : RS) (s2 : RS) (a0 : Int32) (a1 : Int32) (a2 : Int32) : aS l 0 MX10_addCargo n0 S0 (oΦ (fun (x : RS) => (none, xw [(10, b0, f0, x), (0, b1, f1, s1), (3, b2, f2, s2)] h))) 0 [(0, .ref b0), (1, .int a0), (2, .int a1), (3, .int a2)] [] (xw [(10, b0, f0, s0), (0, b1, f1, s1), (3, b2, f2, s2)] h) (pX10_addCargo s0 s1 s2 a0 a1 a2) := by
  unfold pX10_addCargo
  refine s_aload_n (pc := 0) 0 dX10_addCargo_0 rfl ?_
  refine xg_X10_31 0 ho rfl (pc := 1) dX10_addCargo_1 rfl ?_
  refine s_bipush (v := 20) (pc := 4) dX10_addCargo_4 (by decide) ?_
  refine s_icmp_ge (tgt := 62) (pc := 6) dX10_addCargo_6 (by decide) (fun _ => ?_) (fun _ => ?_)
  · exact s_vret (pc := 62) dX10_addCargo_62 rfl (fun _ _ q => q)
  · refine s_aload_n (pc := 9) 0 dX10_addCargo_9 rfl ?_
    refine xg_X10_54 0 ho rfl (pc := 10) dX10_addCargo_10 rfl ?_
    refine s_aload_n (pc := 13) 0 dX10_addCargo_13 rfl ?_
    refine xg_X10_31 0 ho rfl (pc := 14) dX10_addCargo_14 rfl ?_
    refine s_iload_n (pc := 17) 1 dX10_addCargo_17 rfl ?_
    refine xs_10_11 (L' := fun s_1 => [(10, b0, f0, s_1), (0, b1, f1, s1), (3, b2, f2, s2)]) 0 ho rfl (fun _ => rfl) (pc := 18) dX10_addCargo_18 (fun s_1 => ?_)
    refine s_aload_n (pc := 19) 0 dX10_addCargo_19 rfl ?_
    refine xg_X10_57 0 ho rfl (pc := 20) dX10_addCargo_20 rfl ?_
    refine s_aload_n (pc := 23) 0 dX10_addCargo_23 rfl ?_
    refine xg_X10_31 0 ho rfl (pc := 24) dX10_addCargo_24 rfl ?_
    refine s_iload_n (pc := 27) 2 dX10_addCargo_27 rfl ?_
    refine xs_10_12 (L' := fun s_2 => [(10, b0, f0, s_2), (0, b1, f1, s1), (3, b2, f2, s2)]) 0 ho rfl (fun _ => rfl) (pc := 28) dX10_addCargo_28 (fun s_2 => ?_)
    refine s_aload_n (pc := 29) 0 dX10_addCargo_29 rfl ?_
    refine xg_X10_60 0 ho rfl (pc := 30) dX10_addCargo_30 rfl ?_
    refine s_aload_n (pc := 33) 0 dX10_addCargo_33 rfl ?_
    refine xg_X10_31 0 ho rfl (pc := 34) dX10_addCargo_34 rfl ?_
    refine s_iload_n (pc := 37) 3 dX10_addCargo_37 rfl ?_
    refine xs_10_13 (L' := fun s_3 => [(10, b0, f0, s_3), (0, b1, f1, s1), (3, b2, f2, s2)]) 0 ho rfl (fun _ => rfl) (pc := 38) dX10_addCargo_38 (fun s_3 => ?_)
    refine s_aload_n (pc := 39) 0 dX10_addCargo_39 rfl ?_
    refine xg_X10_63 0 ho rfl (pc := 40) dX10_addCargo_40 rfl ?_
    refine s_aload_n (pc := 43) 0 dX10_addCargo_43 rfl ?_
    refine xg_X10_31 0 ho rfl (pc := 44) dX10_addCargo_44 rfl ?_
    refine s_aload_n (pc := 47) 0 dX10_addCargo_47 rfl ?_
    refine xg_X10_51 0 ho rfl (pc := 48) dX10_addCargo_48 rfl ?_
    refine xs_10_14 (L' := fun s_4 => [(10, b0, f0, s_4), (0, b1, f1, s1), (3, b2, f2, s2)]) 0 ho rfl (fun _ => rfl) (pc := 51) dX10_addCargo_51 (fun s_4 => ?_)
    refine s_aload_n (pc := 52) 0 dX10_addCargo_52 rfl ?_
    refine s_dup (pc := 53) dX10_addCargo_53 rfl ?_
    refine xg_X10_31 0 ho rfl (pc := 54) dX10_addCargo_54 rfl ?_
    refine s_iconst (v := 1) (pc := 57) dX10_addCargo_57 (by decide) ?_
    refine s_iadd (pc := 58) dX10_addCargo_58 ?_
    refine xp_X10_31 (L' := fun s_5 => [(10, b0, f0, s_5), (0, b1, f1, s1), (3, b2, f2, s2)]) 0 ho rfl (fun _ => rfl) (pc := 59) dX10_addCargo_59 rfl (fun s_5 => ?_)
    exact s_vret (pc := 62) dX10_addCargo_62 rfl (fun _ _ q => q)
theorem pX10_addCargo_ok (ho : xok [(10, b0), (0, b1), (3, b2)] h.2.1) (hq_0_7 : f0 7 = some b1) (hq_0_8 : f0 8 = some b2) (s0 : RS) (s1 : RS) (s2 : RS) (a0 : Int32) (a1 : Int32) (a2 : Int32) : ∀ x, pX10_addCargo s0 s1 s2 a0 a1 a2 = some x → aMet l 0 yX10_addCargo cX10_addCargo 4 none [.ref b0, .int a0, .int a1, .int a2] (xw [(10, b0, f0, s0), (0, b1, f1, s1), (3, b2, f2, s2)] h) none (xw [(10, b0, f0, x), (0, b1, f1, s1), (3, b2, f2, s2)] h) := fun x hx => a_meth (ini := false) (y := yX10_addCargo) (by decide +kernel) (fun q => by cases q) (fun _ => Nat.le_of_ble_eq_true rfl) (pX10_addCargo_w ho hq_0_7 hq_0_8 s0 s1 s2 a0 a1 a2) x hx _ _ ⟨rfl, rfl⟩
end
section
variable {l : Launch} {n0 S0 : Nat} {h : aH} {b0 b1 b2 : Nat} {f0 f1 f2 : Nat → Option Nat}
abbrev MX10_setOut : aM := (cX10_setOut, RX10, 6, (some .boolean), false)
def X10_setOut_j151 (v1 : Int32) (v2 : Int32) (v3 : Int32) (v4 : Int32) (s0 : RS) (s1 : RS) (s2 : RS) : Option (Bool × RS) :=
  g_in v1 60 (
  if (s2.2.2.1 6 v1.toNatClampNeg) = 0 then
    some (true, s0)
  else
    g_in v2 4 (
    (pX10_addCargo s0 s1 s2 (s0.2.2.1 0 v2.toNatClampNeg) v3 (((s0.1 2) + v4) + (1 : Int32))).bind fun x9 =>
    some (true, x9)))
theorem X10_setOut_j151_ok (ho : xok [(10, b0), (0, b1), (3, b2)] h.2.1) (hq_0_7 : f0 7 = some b1) (hq_0_8 : f0 8 = some b2) (v1 : Int32) (v2 : Int32) (v3 : Int32) (v4 : Int32) (s0 : RS) (s1 : RS) (s2 : RS) : aS l 2 MX10_setOut n0 S0 (oΦ (fun (x : Bool × RS) => ((some (.int (b2i x.1))), xw [(10, b0, f0, x.2), (0, b1, f1, s1), (3, b2, f2, s2)] h))) 151 [(0, .ref b0), (1, .int v1), (2, .int v2), (3, .int v3), (4, .int v4)] [] (xw [(10, b0, f0, s0), (0, b1, f1, s1), (3, b2, f2, s2)] h) (X10_setOut_j151 v1 v2 v3 v4 s0 s1 s2) := by
  unfold X10_setOut_j151
  refine s_aload_n (pc := 151) 0 dX10_setOut_151 rfl ?_
  refine xg_X10_44 0 ho rfl (pc := 152) dX10_setOut_152 rfl hq_0_8 ?_
  refine xg_X10_149 2 ho rfl (pc := 155) dX10_setOut_155 rfl ?_
  refine s_iload_n (pc := 158) 1 dX10_setOut_158 rfl ?_
  refine xl_3_6 2 ho rfl (pc := 159) dX10_setOut_159 ?_
  refine s_if_eq (tgt := 183) (pc := 160) dX10_setOut_160 (by decide) (fun _ => ?_) (fun _ => ?_)
  · refine s_iconst (v := 1) (pc := 183) dX10_setOut_183 (by decide) ?_
    exact s_zretB (b := true) (pc := 184) dX10_setOut_184 rfl (fun _ _ q => q)
  · refine s_aload_n (pc := 163) 0 dX10_setOut_163 rfl ?_
    refine s_aload_n (pc := 164) 0 dX10_setOut_164 rfl ?_
    refine xg_X10_9 0 ho rfl (pc := 165) dX10_setOut_165 rfl ?_
    refine s_iload_n (pc := 168) 2 dX10_setOut_168 rfl ?_
    refine xl_10_0 0 ho rfl (pc := 169) dX10_setOut_169 ?_
    refine s_iload_n (pc := 170) 3 dX10_setOut_170 rfl ?_
    refine s_aload_n (pc := 171) 0 dX10_setOut_171 rfl ?_
    refine xg_X10_19 0 ho rfl (pc := 172) dX10_setOut_172 rfl ?_
    refine s_iload (pc := 175) 4 dX10_setOut_175 rfl ?_
    refine s_iadd (pc := 177) dX10_setOut_177 ?_
    refine s_iconst (v := 1) (pc := 178) dX10_setOut_178 (by decide) ?_
    refine s_iadd (pc := 179) dX10_setOut_179 ?_
    refine x_callV (M := MX10_setOut) (L := [(10, b0, f0, s0), (0, b1, f1, s1), (3, b2, f2, s2)]) (h := h) (j := 0) (As := [.int (s0.2.2.1 0 v2.toNatClampNeg), .int v3, .int (((s0.1 2) + v4) + (1 : Int32))]) (st := []) (A := fun (x : RS) => none) (Lc := [(10, b0, f0, s0), (0, b1, f1, s1), (3, b2, f2, s2)]) (Lr := fun (x : RS) => [(10, b0, f0, x), (0, b1, f1, s1), (3, b2, f2, s2)]) (L2 := fun (x : RS) => [(10, b0, f0, x), (0, b1, f1, s1), (3, b2, f2, s2)]) cv_X10_153 (by decide) (pc := 180) dX10_setOut_180 ho rfl xc0_10 rfl rfl (Nat.le_of_ble_eq_true rfl) (xovs (L := [(10, b0, f0, s0), (0, b1, f1, s1), (3, b2, f2, s2)]) (h := h) [(0, (10, b0, f0, s0)), (1, (0, b1, f1, s1)), (2, (3, b2, f2, s2))] ho ⟨rfl, rfl, rfl, trivial⟩).1 (fun x => (xovs (L := [(10, b0, f0, s0), (0, b1, f1, s1), (3, b2, f2, s2)]) (h := h) [(0, (10, b0, f0, x)), (1, (0, b1, f1, s1)), (2, (3, b2, f2, s2))] ho ⟨rfl, rfl, rfl, trivial⟩).1) (fun x hx => pX10_addCargo_ok (h := xw [(10, b0, f0, s0), (0, b1, f1, s1), (3, b2, f2, s2)] h) (f0 := f0) (f1 := f1) (f2 := f2) (xok_sub ho [0, 1, 2] rfl (by decide)) hq_0_7 hq_0_8 s0 s1 s2 (s0.2.2.1 0 v2.toNatClampNeg) v3 (((s0.1 2) + v4) + (1 : Int32)) x hx) rfl (fun x9 _ => ?_)
    refine s_iconst (v := 1) (pc := 183) dX10_setOut_183 (by decide) ?_
    exact s_zretB (b := true) (pc := 184) dX10_setOut_184 rfl (fun _ _ q => q)
def X10_setOut_j87 (v1 : Int32) (v2 : Int32) (v3 : Int32) (v4 : Int32) (k0 : Bool) (k1 : Bool) (s0 : RS) (s1 : RS) (s2 : RS) : Option (Bool × RS) :=
  thn ((b2i k0) + (b2i k1)) fun x6 =>
  if ((s0.1 6) + x6) ≤ (20 : Int32) then
    thn (uI s0 10 ((s0.1 10) + (1 : Int32))) fun s_7 =>
    if v4 ≤ 0 then
      g_in v2 4 (
      (pX10_land s_7 s1 s2 (s_7.2.2.1 0 v2.toNatClampNeg) v3).bind fun x8 =>
      X10_setOut_j151 v1 v2 v3 v4 x8 s1 s2)
    else
      g_in v2 4 (
      (pX10_addCargo s_7 s1 s2 (s_7.2.2.1 0 v2.toNatClampNeg) v3 ((s_7.1 2) + v4)).bind fun x10 =>
      X10_setOut_j151 v1 v2 v3 v4 x10 s1 s2)
  else
    some (false, s0)
theorem X10_setOut_j87_ok (ho : xok [(10, b0), (0, b1), (3, b2)] h.2.1) (hq_0_7 : f0 7 = some b1) (hq_0_8 : f0 8 = some b2) (v1 : Int32) (v2 : Int32) (v3 : Int32) (v4 : Int32) (k0 : Bool) (k1 : Bool) (s0 : RS) (s1 : RS) (s2 : RS) : aS l 2 MX10_setOut n0 S0 (oΦ (fun (x : Bool × RS) => ((some (.int (b2i x.1))), xw [(10, b0, f0, x.2), (0, b1, f1, s1), (3, b2, f2, s2)] h))) 87 [(0, .ref b0), (1, .int v1), (2, .int v2), (3, .int v3), (4, .int v4)] [.int (b2i k1), .int (b2i k0)] (xw [(10, b0, f0, s0), (0, b1, f1, s1), (3, b2, f2, s2)] h) (X10_setOut_j87 v1 v2 v3 v4 k0 k1 s0 s1 s2) := by
  unfold X10_setOut_j87
  refine s_iadd (pc := 87) dX10_setOut_87 ?_
  refine s_istoreT (lv' := fun x6 => [(5, .int x6), (0, .ref b0), (1, .int v1), (2, .int v2), (3, .int v3), (4, .int v4)]) (pc := 88) dX10_setOut_88 (by decide) (fun _ => rfl) (fun x6 => ?_)
  refine s_aload_n (pc := 90) 1 dX10_setOut_90 rfl ?_
  refine xg_X10_31 0 ho rfl (pc := 91) dX10_setOut_91 rfl ?_
  refine s_iload (pc := 94) 0 dX10_setOut_94 rfl ?_
  refine s_iadd (pc := 96) dX10_setOut_96 ?_
  refine s_bipush (v := 20) (pc := 97) dX10_setOut_97 (by decide) ?_
  refine s_icmp_le (tgt := 104) (pc := 99) dX10_setOut_99 (by decide) (fun _ => ?_) (fun _ => ?_)
  · refine s_aload_n (pc := 104) 1 dX10_setOut_104 rfl ?_
    refine s_dup (pc := 105) dX10_setOut_105 rfl ?_
    refine xg_X10_51 0 ho rfl (pc := 106) dX10_setOut_106 rfl ?_
    refine s_iconst (v := 1) (pc := 109) dX10_setOut_109 (by decide) ?_
    refine s_iadd (pc := 110) dX10_setOut_110 ?_
    refine xp_X10_51 (L' := fun s_7 => [(10, b0, f0, s_7), (0, b1, f1, s1), (3, b2, f2, s2)]) 0 ho rfl (fun _ => rfl) (pc := 111) dX10_setOut_111 rfl (fun s_7 => ?_)
    refine s_iload (pc := 114) 5 dX10_setOut_114 rfl ?_
    refine s_if_le (tgt := 140) (pc := 116) dX10_setOut_116 (by decide) (fun _ => ?_) (fun _ => ?_)
    · refine s_aload_n (pc := 140) 1 dX10_setOut_140 rfl ?_
      refine s_aload_n (pc := 141) 1 dX10_setOut_141 rfl ?_
      refine xg_X10_9 0 ho rfl (pc := 142) dX10_setOut_142 rfl ?_
      refine s_iload_n (pc := 145) 3 dX10_setOut_145 rfl ?_
      refine xl_10_0 0 ho rfl (pc := 146) dX10_setOut_146 ?_
      refine s_iload_n (pc := 147) 4 dX10_setOut_147 rfl ?_
      refine x_callV (M := MX10_setOut) (L := [(10, b0, f0, s_7), (0, b1, f1, s1), (3, b2, f2, s2)]) (h := h) (j := 0) (As := [.int (s_7.2.2.1 0 v2.toNatClampNeg), .int v3]) (st := []) (A := fun (x : RS) => none) (Lc := [(10, b0, f0, s_7), (0, b1, f1, s1), (3, b2, f2, s2)]) (Lr := fun (x : RS) => [(10, b0, f0, x), (0, b1, f1, s1), (3, b2, f2, s2)]) (L2 := fun (x : RS) => [(10, b0, f0, x), (0, b1, f1, s1), (3, b2, f2, s2)]) cv_X10_157 (by decide) (pc := 148) dX10_setOut_148 ho rfl xc0_10 rfl rfl (Nat.le_of_ble_eq_true rfl) (xovs (L := [(10, b0, f0, s_7), (0, b1, f1, s1), (3, b2, f2, s2)]) (h := h) [(0, (10, b0, f0, s_7)), (1, (0, b1, f1, s1)), (2, (3, b2, f2, s2))] ho ⟨rfl, rfl, rfl, trivial⟩).1 (fun x => (xovs (L := [(10, b0, f0, s_7), (0, b1, f1, s1), (3, b2, f2, s2)]) (h := h) [(0, (10, b0, f0, x)), (1, (0, b1, f1, s1)), (2, (3, b2, f2, s2))] ho ⟨rfl, rfl, rfl, trivial⟩).1) (fun x hx => pX10_land_ok (h := xw [(10, b0, f0, s_7), (0, b1, f1, s1), (3, b2, f2, s2)] h) (f0 := f0) (f1 := f1) (f2 := f2) (xok_sub ho [0, 1, 2] rfl (by decide)) hq_0_7 hq_0_8 s_7 s1 s2 (s_7.2.2.1 0 v2.toNatClampNeg) v3 x hx) rfl (fun x8 _ => ?_)
      refine s_sub [1, 2, 3, 4, 5] rfl ?_
      exact X10_setOut_j151_ok ho hq_0_7 hq_0_8 v1 v2 v3 v4 x8 s1 s2
    · refine s_aload_n (pc := 119) 1 dX10_setOut_119 rfl ?_
      refine s_aload_n (pc := 120) 1 dX10_setOut_120 rfl ?_
      refine xg_X10_9 0 ho rfl (pc := 121) dX10_setOut_121 rfl ?_
      refine s_iload_n (pc := 124) 3 dX10_setOut_124 rfl ?_
      refine xl_10_0 0 ho rfl (pc := 125) dX10_setOut_125 ?_
      refine s_iload_n (pc := 126) 4 dX10_setOut_126 rfl ?_
      refine s_aload_n (pc := 127) 1 dX10_setOut_127 rfl ?_
      refine xg_X10_19 0 ho rfl (pc := 128) dX10_setOut_128 rfl ?_
      refine s_iload (pc := 131) 5 dX10_setOut_131 rfl ?_
      refine s_iadd (pc := 133) dX10_setOut_133 ?_
      refine x_callV (M := MX10_setOut) (L := [(10, b0, f0, s_7), (0, b1, f1, s1), (3, b2, f2, s2)]) (h := h) (j := 0) (As := [.int (s_7.2.2.1 0 v2.toNatClampNeg), .int v3, .int ((s_7.1 2) + v4)]) (st := []) (A := fun (x : RS) => none) (Lc := [(10, b0, f0, s_7), (0, b1, f1, s1), (3, b2, f2, s2)]) (Lr := fun (x : RS) => [(10, b0, f0, x), (0, b1, f1, s1), (3, b2, f2, s2)]) (L2 := fun (x : RS) => [(10, b0, f0, x), (0, b1, f1, s1), (3, b2, f2, s2)]) cv_X10_153 (by decide) (pc := 134) dX10_setOut_134 ho rfl xc0_10 rfl rfl (Nat.le_of_ble_eq_true rfl) (xovs (L := [(10, b0, f0, s_7), (0, b1, f1, s1), (3, b2, f2, s2)]) (h := h) [(0, (10, b0, f0, s_7)), (1, (0, b1, f1, s1)), (2, (3, b2, f2, s2))] ho ⟨rfl, rfl, rfl, trivial⟩).1 (fun x => (xovs (L := [(10, b0, f0, s_7), (0, b1, f1, s1), (3, b2, f2, s2)]) (h := h) [(0, (10, b0, f0, x)), (1, (0, b1, f1, s1)), (2, (3, b2, f2, s2))] ho ⟨rfl, rfl, rfl, trivial⟩).1) (fun x hx => pX10_addCargo_ok (h := xw [(10, b0, f0, s_7), (0, b1, f1, s1), (3, b2, f2, s2)] h) (f0 := f0) (f1 := f1) (f2 := f2) (xok_sub ho [0, 1, 2] rfl (by decide)) hq_0_7 hq_0_8 s_7 s1 s2 (s_7.2.2.1 0 v2.toNatClampNeg) v3 ((s_7.1 2) + v4) x hx) rfl (fun x10 _ => ?_)
      refine s_goto (tgt := 151) (pc := 137) dX10_setOut_137 (by decide) ?_
      refine s_sub [1, 2, 3, 4, 5] rfl ?_
      exact X10_setOut_j151_ok ho hq_0_7 hq_0_8 v1 v2 v3 v4 x10 s1 s2
  · refine s_iconst (v := 0) (pc := 102) dX10_setOut_102 (by decide) ?_
    exact s_zretB (b := false) (pc := 103) dX10_setOut_103 rfl (fun _ _ q => q)
def X10_setOut_j70 (v1 : Int32) (v2 : Int32) (v3 : Int32) (v4 : Int32) (k0 : Bool) (s0 : RS) (s1 : RS) (s2 : RS) : Option (Bool × RS) :=
  g_in v1 60 (
  if (s2.2.2.1 6 v1.toNatClampNeg) = 0 then
    X10_setOut_j87 v1 v2 v3 v4 k0 false s0 s1 s2
  else
    X10_setOut_j87 v1 v2 v3 v4 k0 true s0 s1 s2)
theorem X10_setOut_j70_ok (ho : xok [(10, b0), (0, b1), (3, b2)] h.2.1) (hq_0_7 : f0 7 = some b1) (hq_0_8 : f0 8 = some b2) (v1 : Int32) (v2 : Int32) (v3 : Int32) (v4 : Int32) (k0 : Bool) (s0 : RS) (s1 : RS) (s2 : RS) : aS l 2 MX10_setOut n0 S0 (oΦ (fun (x : Bool × RS) => ((some (.int (b2i x.1))), xw [(10, b0, f0, x.2), (0, b1, f1, s1), (3, b2, f2, s2)] h))) 70 [(0, .ref b0), (1, .int v1), (2, .int v2), (3, .int v3), (4, .int v4)] [.int (b2i k0)] (xw [(10, b0, f0, s0), (0, b1, f1, s1), (3, b2, f2, s2)] h) (X10_setOut_j70 v1 v2 v3 v4 k0 s0 s1 s2) := by
  unfold X10_setOut_j70
  refine s_aload_n (pc := 70) 0 dX10_setOut_70 rfl ?_
  refine xg_X10_44 0 ho rfl (pc := 71) dX10_setOut_71 rfl hq_0_8 ?_
  refine xg_X10_149 2 ho rfl (pc := 74) dX10_setOut_74 rfl ?_
  refine s_iload_n (pc := 77) 1 dX10_setOut_77 rfl ?_
  refine xl_3_6 2 ho rfl (pc := 78) dX10_setOut_78 ?_
  refine s_if_eq (tgt := 86) (pc := 79) dX10_setOut_79 (by decide) (fun _ => ?_) (fun _ => ?_)
  · refine s_iconst (v := 0) (pc := 86) dX10_setOut_86 (by decide) ?_
    exact X10_setOut_j87_ok ho hq_0_7 hq_0_8 v1 v2 v3 v4 k0 false s0 s1 s2
  · refine s_iconst (v := 1) (pc := 82) dX10_setOut_82 (by decide) ?_
    refine s_goto (tgt := 87) (pc := 83) dX10_setOut_83 (by decide) ?_
    exact X10_setOut_j87_ok ho hq_0_7 hq_0_8 v1 v2 v3 v4 k0 true s0 s1 s2
def pX10_setOut (s0 : RS) (s1 : RS) (s2 : RS) (a0 : Int32) : Option (Bool × RS) :=
  g_in a0 60 (
  thn (s2.2.2.1 3 a0.toNatClampNeg) fun x1 =>
  g_in a0 60 (
  thn (s2.2.2.1 4 a0.toNatClampNeg) fun x2 =>
  (pX0_isIsland s1 x1).bind fun x3 =>
  if x3 = true then
    (pX0_isIsland s1 x2).bind fun x4 =>
    if x4 = true then
      if x1 = x2 then
        some (false, s0)
      else
        g_in a0 60 (
        thn (s2.2.2.1 5 a0.toNatClampNeg) fun x5 =>
        if x5 ≤ 0 then
          X10_setOut_j70 a0 x1 x2 x5 false s0 s1 s2
        else
          X10_setOut_j70 a0 x1 x2 x5 true s0 s1 s2)
    else
      some (false, s0)
  else
    some (false, s0)))
theorem pX10_setOut_w (ho : xok [(10, b0), (0, b1), (3, b2)] h.2.1) (hq_0_7 : f0 7 = some b1) (hq_0_8 : f0 8 = some b2) (s0 : RS) (s1 : RS) (s2 : RS) (a0 : Int32) : aS l 2 MX10_setOut n0 S0 (oΦ (fun (x : Bool × RS) => ((some (.int (b2i x.1))), xw [(10, b0, f0, x.2), (0, b1, f1, s1), (3, b2, f2, s2)] h))) 0 [(0, .ref b0), (1, .int a0)] [] (xw [(10, b0, f0, s0), (0, b1, f1, s1), (3, b2, f2, s2)] h) (pX10_setOut s0 s1 s2 a0) := by
  unfold pX10_setOut
  refine s_aload_n (pc := 0) 0 dX10_setOut_0 rfl ?_
  refine xg_X10_44 0 ho rfl (pc := 1) dX10_setOut_1 rfl hq_0_8 ?_
  refine xg_X10_104 2 ho rfl (pc := 4) dX10_setOut_4 rfl ?_
  refine s_iload_n (pc := 7) 1 dX10_setOut_7 rfl ?_
  refine xl_3_3 2 ho rfl (pc := 8) dX10_setOut_8 ?_
  refine s_istore_nT (lv' := fun x1 => [(2, .int x1), (0, .ref b0), (1, .int a0)]) (pc := 9) dX10_setOut_9 (by decide) (fun _ => rfl) (fun x1 => ?_)
  refine s_aload_n (pc := 10) 1 dX10_setOut_10 rfl ?_
  refine xg_X10_44 0 ho rfl (pc := 11) dX10_setOut_11 rfl hq_0_8 ?_
  refine xg_X10_109 2 ho rfl (pc := 14) dX10_setOut_14 rfl ?_
  refine s_iload_n (pc := 17) 2 dX10_setOut_17 rfl ?_
  refine xl_3_4 2 ho rfl (pc := 18) dX10_setOut_18 ?_
  refine s_istore_nT (lv' := fun x2 => [(3, .int x2), (2, .int x1), (0, .ref b0), (1, .int a0)]) (pc := 19) dX10_setOut_19 (by decide) (fun _ => rfl) (fun x2 => ?_)
  refine s_aload_n (pc := 20) 2 dX10_setOut_20 rfl ?_
  refine xg_X10_37 0 ho rfl (pc := 21) dX10_setOut_21 rfl hq_0_7 ?_
  refine s_iload_n (pc := 24) 1 dX10_setOut_24 rfl ?_
  refine x_callV (M := MX10_setOut) (L := [(10, b0, f0, s0), (0, b1, f1, s1), (3, b2, f2, s2)]) (h := h) (j := 1) (As := [.int x1]) (st := []) (A := fun (x : Bool) => some (.int (b2i x))) (Lc := [(0, b1, f1, s1)]) (Lr := fun (x : Bool) => [(0, b1, f1, s1)]) (L2 := fun (x : Bool) => [(10, b0, f0, s0), (0, b1, f1, s1), (3, b2, f2, s2)]) cv_X10_106 (by decide) (pc := 25) dX10_setOut_25 ho rfl xc0_0 rfl rfl (Nat.le_of_ble_eq_true rfl) (xovs (L := [(10, b0, f0, s0), (0, b1, f1, s1), (3, b2, f2, s2)]) (h := h) [(1, (0, b1, f1, s1))] ho ⟨rfl, trivial⟩).1 (fun x => (xovs (L := [(10, b0, f0, s0), (0, b1, f1, s1), (3, b2, f2, s2)]) (h := h) [(1, (0, b1, f1, s1))] ho ⟨rfl, trivial⟩).1) (fun x hx => pX0_isIsland_ok (h := xw [(10, b0, f0, s0), (0, b1, f1, s1), (3, b2, f2, s2)] h) (f0 := f1) (xok_sub ho [1] rfl (by decide)) s1 x1 x hx) rfl (fun x3 _ => ?_)
  refine s_if_eqB (tgt := 47) (pc := 28) dX10_setOut_28 (by decide) (fun _ => ?_) (fun _ => ?_)
  · refine s_aload_n (pc := 31) 2 dX10_setOut_31 rfl ?_
    refine xg_X10_37 0 ho rfl (pc := 32) dX10_setOut_32 rfl hq_0_7 ?_
    refine s_iload_n (pc := 35) 0 dX10_setOut_35 rfl ?_
    refine x_callV (M := MX10_setOut) (L := [(10, b0, f0, s0), (0, b1, f1, s1), (3, b2, f2, s2)]) (h := h) (j := 1) (As := [.int x2]) (st := []) (A := fun (x : Bool) => some (.int (b2i x))) (Lc := [(0, b1, f1, s1)]) (Lr := fun (x : Bool) => [(0, b1, f1, s1)]) (L2 := fun (x : Bool) => [(10, b0, f0, s0), (0, b1, f1, s1), (3, b2, f2, s2)]) cv_X10_106 (by decide) (pc := 36) dX10_setOut_36 ho rfl xc0_0 rfl rfl (Nat.le_of_ble_eq_true rfl) (xovs (L := [(10, b0, f0, s0), (0, b1, f1, s1), (3, b2, f2, s2)]) (h := h) [(1, (0, b1, f1, s1))] ho ⟨rfl, trivial⟩).1 (fun x => (xovs (L := [(10, b0, f0, s0), (0, b1, f1, s1), (3, b2, f2, s2)]) (h := h) [(1, (0, b1, f1, s1))] ho ⟨rfl, trivial⟩).1) (fun x hx => pX0_isIsland_ok (h := xw [(10, b0, f0, s0), (0, b1, f1, s1), (3, b2, f2, s2)] h) (f0 := f1) (xok_sub ho [1] rfl (by decide)) s1 x2 x hx) rfl (fun x4 _ => ?_)
    refine s_if_eqB (tgt := 47) (pc := 39) dX10_setOut_39 (by decide) (fun _ => ?_) (fun _ => ?_)
    · refine s_iload_n (pc := 42) 1 dX10_setOut_42 rfl ?_
      refine s_iload_n (pc := 43) 0 dX10_setOut_43 rfl ?_
      refine s_icmp_ne (tgt := 49) (pc := 44) dX10_setOut_44 (by decide) (fun _ => ?_) (fun _ => ?_)
      · refine s_iconst (v := 0) (pc := 47) dX10_setOut_47 (by decide) ?_
        exact s_zretB (b := false) (pc := 48) dX10_setOut_48 rfl (fun _ _ q => q)
      · refine s_aload_n (pc := 49) 2 dX10_setOut_49 rfl ?_
        refine xg_X10_44 0 ho rfl (pc := 50) dX10_setOut_50 rfl hq_0_8 ?_
        refine xg_X10_95 2 ho rfl (pc := 53) dX10_setOut_53 rfl ?_
        refine s_iload_n (pc := 56) 3 dX10_setOut_56 rfl ?_
        refine xl_3_5 2 ho rfl (pc := 57) dX10_setOut_57 ?_
        refine s_istoreT (lv' := fun x5 => [(4, .int x5), (3, .int x2), (2, .int x1), (0, .ref b0), (1, .int a0)]) (pc := 58) dX10_setOut_58 (by decide) (fun _ => rfl) (fun x5 => ?_)
        refine s_iload (pc := 60) 0 dX10_setOut_60 rfl ?_
        refine s_if_le (tgt := 69) (pc := 62) dX10_setOut_62 (by decide) (fun _ => ?_) (fun _ => ?_)
        · refine s_iconst (v := 0) (pc := 69) dX10_setOut_69 (by decide) ?_
          refine s_sub [3, 4, 2, 1, 0] rfl ?_
          exact X10_setOut_j70_ok ho hq_0_7 hq_0_8 a0 x1 x2 x5 false s0 s1 s2
        · refine s_iconst (v := 1) (pc := 65) dX10_setOut_65 (by decide) ?_
          refine s_goto (tgt := 70) (pc := 66) dX10_setOut_66 (by decide) ?_
          refine s_sub [3, 4, 2, 1, 0] rfl ?_
          exact X10_setOut_j70_ok ho hq_0_7 hq_0_8 a0 x1 x2 x5 true s0 s1 s2
    · refine s_iconst (v := 0) (pc := 47) dX10_setOut_47 (by decide) ?_
      exact s_zretB (b := false) (pc := 48) dX10_setOut_48 rfl (fun _ _ q => q)
  · refine s_iconst (v := 0) (pc := 47) dX10_setOut_47 (by decide) ?_
    exact s_zretB (b := false) (pc := 48) dX10_setOut_48 rfl (fun _ _ q => q)
theorem pX10_setOut_ok (ho : xok [(10, b0), (0, b1), (3, b2)] h.2.1) (hq_0_7 : f0 7 = some b1) (hq_0_8 : f0 8 = some b2) (s0 : RS) (s1 : RS) (s2 : RS) (a0 : Int32) : ∀ x, pX10_setOut s0 s1 s2 a0 = some x → aMet l 2 yX10_setOut cX10_setOut 6 (some .boolean) [.ref b0, .int a0] (xw [(10, b0, f0, s0), (0, b1, f1, s1), (3, b2, f2, s2)] h) (some (.int (b2i x.1))) (xw [(10, b0, f0, x.2), (0, b1, f1, s1), (3, b2, f2, s2)] h) := fun x hx => a_meth (ini := false) (y := yX10_setOut) (by decide +kernel) (fun q => by cases q) (fun _ => Nat.le_of_ble_eq_true rfl) (pX10_setOut_w ho hq_0_7 hq_0_8 s0 s1 s2 a0) x hx _ _ ⟨rfl, rfl⟩
end
section
variable {l : Launch} {n0 S0 : Nat} {h : aH} {b0 b1 b2 : Nat} {f0 f1 f2 : Nat → Option Nat}
abbrev MX10_doStep : aM := (cX10_doStep, RX10, 2, (some .boolean), false)
def pX10_doStep (s0 : RS) (s1 : RS) (s2 : RS) (a0 : Int32) : Option (Bool × RS) :=
  g_in a0 60 (
  if (s2.2.2.1 2 a0.toNatClampNeg) = 13 then
    (pX10_setOut s0 s1 s2 a0).bind fun x1 =>
    some (x1.1, x1.2)
  else
    if (s2.2.2.1 2 a0.toNatClampNeg) = 23 then
      g_in a0 60 (
      (pX10_draw s0 s1 s2 (s2.2.2.1 5 a0.toNatClampNeg)).bind fun x2 =>
      some (true, x2))
    else
      if (s2.2.2.1 2 a0.toNatClampNeg) = 24 then
        g_in a0 60 (
        thn (uI s0 2 ((s0.1 2) + (s2.2.2.1 5 a0.toNatClampNeg))) fun s_3 =>
        (pX10_landDue s_3 s1 s2).bind fun x4 =>
        some (true, x4))
      else
        g_in a0 60 (
        g_in a0 60 (
        g_in a0 60 (
        (pX10_alter s0 s1 s2 (s2.2.2.1 2 a0.toNatClampNeg) (s2.2.2.1 3 a0.toNatClampNeg) (s2.2.2.1 4 a0.toNatClampNeg)).bind fun x5 =>
        some (x5.1, x5.2)))))
theorem pX10_doStep_w (ho : xok [(10, b0), (0, b1), (3, b2)] h.2.1) (hq_0_7 : f0 7 = some b1) (hq_0_8 : f0 8 = some b2) (s0 : RS) (s1 : RS) (s2 : RS) (a0 : Int32) : aS l 3 MX10_doStep n0 S0 (oΦ (fun (x : Bool × RS) => ((some (.int (b2i x.1))), xw [(10, b0, f0, x.2), (0, b1, f1, s1), (3, b2, f2, s2)] h))) 0 [(0, .ref b0), (1, .int a0)] [] (xw [(10, b0, f0, s0), (0, b1, f1, s1), (3, b2, f2, s2)] h) (pX10_doStep s0 s1 s2 a0) := by
  unfold pX10_doStep
  refine s_aload_n (pc := 0) 0 dX10_doStep_0 rfl ?_
  refine xg_X10_44 0 ho rfl (pc := 1) dX10_doStep_1 rfl hq_0_8 ?_
  refine xg_X10_74 2 ho rfl (pc := 4) dX10_doStep_4 rfl ?_
  refine s_iload_n (pc := 7) 1 dX10_doStep_7 rfl ?_
  refine xl_3_2 2 ho rfl (pc := 8) dX10_doStep_8 ?_
  refine s_case (c := (s2.2.2.1 2 a0.toNatClampNeg) = 13) (fun c0 => ?_) (fun n6 => ?_)
  · refine s_look (tgt := 83) (off := 74) (pc := 9) dX10_doStep_9 (by decide) (by rw [c0]; rfl) (by decide) ?_
    refine s_aload_n (pc := 83) 0 dX10_doStep_83 rfl ?_
    refine s_iload_n (pc := 84) 1 dX10_doStep_84 rfl ?_
    refine x_callV (M := MX10_doStep) (L := [(10, b0, f0, s0), (0, b1, f1, s1), (3, b2, f2, s2)]) (h := h) (j := 0) (As := [.int a0]) (st := []) (A := fun (x : Bool × RS) => some (.int (b2i x.1))) (Lc := [(10, b0, f0, s0), (0, b1, f1, s1), (3, b2, f2, s2)]) (Lr := fun (x : Bool × RS) => [(10, b0, f0, x.2), (0, b1, f1, s1), (3, b2, f2, s2)]) (L2 := fun (x : Bool × RS) => [(10, b0, f0, x.2), (0, b1, f1, s1), (3, b2, f2, s2)]) cv_X10_126 (by decide) (pc := 85) dX10_doStep_85 ho rfl xc0_10 rfl rfl (Nat.le_of_ble_eq_true rfl) (xovs (L := [(10, b0, f0, s0), (0, b1, f1, s1), (3, b2, f2, s2)]) (h := h) [(0, (10, b0, f0, s0)), (1, (0, b1, f1, s1)), (2, (3, b2, f2, s2))] ho ⟨rfl, rfl, rfl, trivial⟩).1 (fun x => (xovs (L := [(10, b0, f0, s0), (0, b1, f1, s1), (3, b2, f2, s2)]) (h := h) [(0, (10, b0, f0, x.2)), (1, (0, b1, f1, s1)), (2, (3, b2, f2, s2))] ho ⟨rfl, rfl, rfl, trivial⟩).1) (fun x hx => pX10_setOut_ok (h := xw [(10, b0, f0, s0), (0, b1, f1, s1), (3, b2, f2, s2)] h) (f0 := f0) (f1 := f1) (f2 := f2) (xok_sub ho [0, 1, 2] rfl (by decide)) hq_0_7 hq_0_8 s0 s1 s2 a0 x hx) rfl (fun x1 _ => ?_)
    exact s_zretB (b := x1.1) (pc := 88) dX10_doStep_88 rfl (fun _ _ q => q)
  · refine s_case (c := (s2.2.2.1 2 a0.toNatClampNeg) = 23) (fun c0 => ?_) (fun n7 => ?_)
    · refine s_look (tgt := 68) (off := 59) (pc := 9) dX10_doStep_9 (by decide) (by rw [c0]; rfl) (by decide) ?_
      refine s_aload_n (pc := 68) 0 dX10_doStep_68 rfl ?_
      refine s_aload_n (pc := 69) 0 dX10_doStep_69 rfl ?_
      refine xg_X10_44 0 ho rfl (pc := 70) dX10_doStep_70 rfl hq_0_8 ?_
      refine xg_X10_95 2 ho rfl (pc := 73) dX10_doStep_73 rfl ?_
      refine s_iload_n (pc := 76) 1 dX10_doStep_76 rfl ?_
      refine xl_3_5 2 ho rfl (pc := 77) dX10_doStep_77 ?_
      refine x_callV (M := MX10_doStep) (L := [(10, b0, f0, s0), (0, b1, f1, s1), (3, b2, f2, s2)]) (h := h) (j := 0) (As := [.int (s2.2.2.1 5 a0.toNatClampNeg)]) (st := []) (A := fun (x : RS) => none) (Lc := [(10, b0, f0, s0), (0, b1, f1, s1), (3, b2, f2, s2)]) (Lr := fun (x : RS) => [(10, b0, f0, x), (0, b1, f1, s1), (3, b2, f2, s2)]) (L2 := fun (x : RS) => [(10, b0, f0, x), (0, b1, f1, s1), (3, b2, f2, s2)]) cv_X10_122 (by decide) (pc := 78) dX10_doStep_78 ho rfl xc0_10 rfl rfl (Nat.le_of_ble_eq_true rfl) (xovs (L := [(10, b0, f0, s0), (0, b1, f1, s1), (3, b2, f2, s2)]) (h := h) [(0, (10, b0, f0, s0)), (1, (0, b1, f1, s1)), (2, (3, b2, f2, s2))] ho ⟨rfl, rfl, rfl, trivial⟩).1 (fun x => (xovs (L := [(10, b0, f0, s0), (0, b1, f1, s1), (3, b2, f2, s2)]) (h := h) [(0, (10, b0, f0, x)), (1, (0, b1, f1, s1)), (2, (3, b2, f2, s2))] ho ⟨rfl, rfl, rfl, trivial⟩).1) (fun x hx => pX10_draw_ok (h := xw [(10, b0, f0, s0), (0, b1, f1, s1), (3, b2, f2, s2)] h) (f0 := f0) (f1 := f1) (f2 := f2) (xok_sub ho [0, 1, 2] rfl (by decide)) hq_0_7 hq_0_8 s0 s1 s2 (s2.2.2.1 5 a0.toNatClampNeg) x hx) rfl (fun x2 _ => ?_)
      refine s_iconst (v := 1) (pc := 81) dX10_doStep_81 (by decide) ?_
      exact s_zretB (b := true) (pc := 82) dX10_doStep_82 rfl (fun _ _ q => q)
    · refine s_case (c := (s2.2.2.1 2 a0.toNatClampNeg) = 24) (fun c0 => ?_) (fun n8 => ?_)
      · refine s_look (tgt := 44) (off := 35) (pc := 9) dX10_doStep_9 (by decide) (by rw [c0]; rfl) (by decide) ?_
        refine s_aload_n (pc := 44) 0 dX10_doStep_44 rfl ?_
        refine s_dup (pc := 45) dX10_doStep_45 rfl ?_
        refine xg_X10_19 0 ho rfl (pc := 46) dX10_doStep_46 rfl ?_
        refine s_aload_n (pc := 49) 0 dX10_doStep_49 rfl ?_
        refine xg_X10_44 0 ho rfl (pc := 50) dX10_doStep_50 rfl hq_0_8 ?_
        refine xg_X10_95 2 ho rfl (pc := 53) dX10_doStep_53 rfl ?_
        refine s_iload_n (pc := 56) 1 dX10_doStep_56 rfl ?_
        refine xl_3_5 2 ho rfl (pc := 57) dX10_doStep_57 ?_
        refine s_iadd (pc := 58) dX10_doStep_58 ?_
        refine xp_X10_19 (L' := fun s_3 => [(10, b0, f0, s_3), (0, b1, f1, s1), (3, b2, f2, s2)]) 0 ho rfl (fun _ => rfl) (pc := 59) dX10_doStep_59 rfl (fun s_3 => ?_)
        refine s_aload_n (pc := 62) 0 dX10_doStep_62 rfl ?_
        refine x_callV (M := MX10_doStep) (L := [(10, b0, f0, s_3), (0, b1, f1, s1), (3, b2, f2, s2)]) (h := h) (j := 0) (As := []) (st := []) (A := fun (x : RS) => none) (Lc := [(10, b0, f0, s_3), (0, b1, f1, s1), (3, b2, f2, s2)]) (Lr := fun (x : RS) => [(10, b0, f0, x), (0, b1, f1, s1), (3, b2, f2, s2)]) (L2 := fun (x : RS) => [(10, b0, f0, x), (0, b1, f1, s1), (3, b2, f2, s2)]) cv_X10_119 (by decide) (pc := 63) dX10_doStep_63 ho rfl xc0_10 rfl rfl (Nat.le_of_ble_eq_true rfl) (xovs (L := [(10, b0, f0, s_3), (0, b1, f1, s1), (3, b2, f2, s2)]) (h := h) [(0, (10, b0, f0, s_3)), (1, (0, b1, f1, s1)), (2, (3, b2, f2, s2))] ho ⟨rfl, rfl, rfl, trivial⟩).1 (fun x => (xovs (L := [(10, b0, f0, s_3), (0, b1, f1, s1), (3, b2, f2, s2)]) (h := h) [(0, (10, b0, f0, x)), (1, (0, b1, f1, s1)), (2, (3, b2, f2, s2))] ho ⟨rfl, rfl, rfl, trivial⟩).1) (fun x hx => pX10_landDue_ok (h := xw [(10, b0, f0, s_3), (0, b1, f1, s1), (3, b2, f2, s2)] h) (f0 := f0) (f1 := f1) (f2 := f2) (xok_sub ho [0, 1, 2] rfl (by decide)) hq_0_7 hq_0_8 s_3 s1 s2 x hx) rfl (fun x4 _ => ?_)
        refine s_iconst (v := 1) (pc := 66) dX10_doStep_66 (by decide) ?_
        exact s_zretB (b := true) (pc := 67) dX10_doStep_67 rfl (fun _ _ q => q)
      · refine s_look (tgt := 89) (off := 80) (pc := 9) dX10_doStep_9 (by decide) (lk1 (fun q => n6 (q.trans (by decide))) (lk1 (fun q => n7 (q.trans (by decide))) (lk1 (fun q => n8 (q.trans (by decide))) rfl))) (by decide) ?_
        refine s_aload_n (pc := 89) 0 dX10_doStep_89 rfl ?_
        refine s_aload_n (pc := 90) 0 dX10_doStep_90 rfl ?_
        refine xg_X10_44 0 ho rfl (pc := 91) dX10_doStep_91 rfl hq_0_8 ?_
        refine xg_X10_74 2 ho rfl (pc := 94) dX10_doStep_94 rfl ?_
        refine s_iload_n (pc := 97) 1 dX10_doStep_97 rfl ?_
        refine xl_3_2 2 ho rfl (pc := 98) dX10_doStep_98 ?_
        refine s_aload_n (pc := 99) 0 dX10_doStep_99 rfl ?_
        refine xg_X10_44 0 ho rfl (pc := 100) dX10_doStep_100 rfl hq_0_8 ?_
        refine xg_X10_104 2 ho rfl (pc := 103) dX10_doStep_103 rfl ?_
        refine s_iload_n (pc := 106) 1 dX10_doStep_106 rfl ?_
        refine xl_3_3 2 ho rfl (pc := 107) dX10_doStep_107 ?_
        refine s_aload_n (pc := 108) 0 dX10_doStep_108 rfl ?_
        refine xg_X10_44 0 ho rfl (pc := 109) dX10_doStep_109 rfl hq_0_8 ?_
        refine xg_X10_109 2 ho rfl (pc := 112) dX10_doStep_112 rfl ?_
        refine s_iload_n (pc := 115) 1 dX10_doStep_115 rfl ?_
        refine xl_3_4 2 ho rfl (pc := 116) dX10_doStep_116 ?_
        refine x_callV (M := MX10_doStep) (L := [(10, b0, f0, s0), (0, b1, f1, s1), (3, b2, f2, s2)]) (h := h) (j := 0) (As := [.int (s2.2.2.1 2 a0.toNatClampNeg), .int (s2.2.2.1 3 a0.toNatClampNeg), .int (s2.2.2.1 4 a0.toNatClampNeg)]) (st := []) (A := fun (x : Bool × RS) => some (.int (b2i x.1))) (Lc := [(10, b0, f0, s0), (0, b1, f1, s1), (3, b2, f2, s2)]) (Lr := fun (x : Bool × RS) => [(10, b0, f0, x.2), (0, b1, f1, s1), (3, b2, f2, s2)]) (L2 := fun (x : Bool × RS) => [(10, b0, f0, x.2), (0, b1, f1, s1), (3, b2, f2, s2)]) cv_X10_129 (by decide) (pc := 117) dX10_doStep_117 ho rfl xc0_10 rfl rfl (Nat.le_of_ble_eq_true rfl) (xovs (L := [(10, b0, f0, s0), (0, b1, f1, s1), (3, b2, f2, s2)]) (h := h) [(0, (10, b0, f0, s0)), (1, (0, b1, f1, s1)), (2, (3, b2, f2, s2))] ho ⟨rfl, rfl, rfl, trivial⟩).1 (fun x => (xovs (L := [(10, b0, f0, s0), (0, b1, f1, s1), (3, b2, f2, s2)]) (h := h) [(0, (10, b0, f0, x.2)), (1, (0, b1, f1, s1)), (2, (3, b2, f2, s2))] ho ⟨rfl, rfl, rfl, trivial⟩).1) (fun x hx => pX10_alter_ok (h := xw [(10, b0, f0, s0), (0, b1, f1, s1), (3, b2, f2, s2)] h) (f0 := f0) (f1 := f1) (f2 := f2) (xok_sub ho [0, 1, 2] rfl (by decide)) hq_0_7 hq_0_8 s0 s1 s2 (s2.2.2.1 2 a0.toNatClampNeg) (s2.2.2.1 3 a0.toNatClampNeg) (s2.2.2.1 4 a0.toNatClampNeg) x hx) rfl (fun x5 _ => ?_)
        exact s_zretB (b := x5.1) (pc := 120) dX10_doStep_120 rfl (fun _ _ q => q)
theorem pX10_doStep_ok (ho : xok [(10, b0), (0, b1), (3, b2)] h.2.1) (hq_0_7 : f0 7 = some b1) (hq_0_8 : f0 8 = some b2) (s0 : RS) (s1 : RS) (s2 : RS) (a0 : Int32) : ∀ x, pX10_doStep s0 s1 s2 a0 = some x → aMet l 3 yX10_doStep cX10_doStep 2 (some .boolean) [.ref b0, .int a0] (xw [(10, b0, f0, s0), (0, b1, f1, s1), (3, b2, f2, s2)] h) (some (.int (b2i x.1))) (xw [(10, b0, f0, x.2), (0, b1, f1, s1), (3, b2, f2, s2)] h) := fun x hx => a_meth (ini := false) (y := yX10_doStep) (by decide +kernel) (fun q => by cases q) (fun _ => Nat.le_of_ble_eq_true rfl) (pX10_doStep_w ho hq_0_7 hq_0_8 s0 s1 s2 a0) x hx _ _ ⟨rfl, rfl⟩
end
section
variable {l : Launch} {n0 S0 : Nat} {h : aH} {b0 b1 b2 : Nat} {f0 f1 f2 : Nat → Option Nat}
abbrev MX10_isSo : aM := (cX10_isSo, RX10, 3, (some .boolean), false)
def pX10_isSo (s0 : RS) (s1 : RS) (s2 : RS) (a0 : Int32) : Option Bool :=
  g_in a0 60 (
  thn (s2.2.2.1 3 a0.toNatClampNeg) fun x1 =>
  g_in a0 60 (
  if (s2.2.2.1 2 a0.toNatClampNeg) = 20 then
    (pX0_isIsland s1 x1).bind fun x2 =>
    if x2 = true then
      g_in x1 4 (
      g_in a0 60 (
      (pX0_isIn (s0.2.2.1 0 x1.toNatClampNeg) (s2.2.2.1 4 a0.toNatClampNeg)).bind fun x3 =>
      if x3 = true then
        some true
      else
        some false))
    else
      some false
  else
    if (s2.2.2.1 2 a0.toNatClampNeg) = 21 then
      (pX0_isIsland s1 x1).bind fun x4 =>
      if x4 = true then
        g_in x1 4 (
        (pX0_mostQuarrelling s1 (s0.2.2.1 0 x1.toNatClampNeg)).bind fun x5 =>
        if x5 = (-1 : Int32) then
          some true
        else
          some false)
      else
        some false
    else
      g_in a0 60 (
      if (s0.1 2) < (s2.2.2.1 5 a0.toNatClampNeg) then
        some false
      else
        some true)))
theorem pX10_isSo_w (ho : xok [(10, b0), (0, b1), (3, b2)] h.2.1) (hq_0_7 : f0 7 = some b1) (hq_0_8 : f0 8 = some b2) (s0 : RS) (s1 : RS) (s2 : RS) (a0 : Int32) : aS l 3 MX10_isSo n0 S0 (oΦ (fun (x : Bool) => ((some (.int (b2i x))), xw [(10, b0, f0, s0), (0, b1, f1, s1), (3, b2, f2, s2)] h))) 0 [(0, .ref b0), (1, .int a0)] [] (xw [(10, b0, f0, s0), (0, b1, f1, s1), (3, b2, f2, s2)] h) (pX10_isSo s0 s1 s2 a0) := by
  unfold pX10_isSo
  refine s_aload_n (pc := 0) 0 dX10_isSo_0 rfl ?_
  refine xg_X10_44 0 ho rfl (pc := 1) dX10_isSo_1 rfl hq_0_8 ?_
  refine xg_X10_104 2 ho rfl (pc := 4) dX10_isSo_4 rfl ?_
  refine s_iload_n (pc := 7) 1 dX10_isSo_7 rfl ?_
  refine xl_3_3 2 ho rfl (pc := 8) dX10_isSo_8 ?_
  refine s_istore_nT (lv' := fun x1 => [(2, .int x1), (0, .ref b0), (1, .int a0)]) (pc := 9) dX10_isSo_9 (by decide) (fun _ => rfl) (fun x1 => ?_)
  refine s_aload_n (pc := 10) 1 dX10_isSo_10 rfl ?_
  refine xg_X10_44 0 ho rfl (pc := 11) dX10_isSo_11 rfl hq_0_8 ?_
  refine xg_X10_74 2 ho rfl (pc := 14) dX10_isSo_14 rfl ?_
  refine s_iload_n (pc := 17) 2 dX10_isSo_17 rfl ?_
  refine xl_3_2 2 ho rfl (pc := 18) dX10_isSo_18 ?_
  refine s_case (c := (s2.2.2.1 2 a0.toNatClampNeg) = 20) (fun c0 => ?_) (fun n6 => ?_)
  · refine s_look (tgt := 44) (off := 25) (pc := 19) dX10_isSo_19 (by decide) (by rw [c0]; rfl) (by decide) ?_
    refine s_aload_n (pc := 44) 1 dX10_isSo_44 rfl ?_
    refine xg_X10_37 0 ho rfl (pc := 45) dX10_isSo_45 rfl hq_0_7 ?_
    refine s_iload_n (pc := 48) 0 dX10_isSo_48 rfl ?_
    refine x_callV (M := MX10_isSo) (L := [(10, b0, f0, s0), (0, b1, f1, s1), (3, b2, f2, s2)]) (h := h) (j := 1) (As := [.int x1]) (st := []) (A := fun (x : Bool) => some (.int (b2i x))) (Lc := [(0, b1, f1, s1)]) (Lr := fun (x : Bool) => [(0, b1, f1, s1)]) (L2 := fun (x : Bool) => [(10, b0, f0, s0), (0, b1, f1, s1), (3, b2, f2, s2)]) cv_X10_106 (by decide) (pc := 49) dX10_isSo_49 ho rfl xc0_0 rfl rfl (Nat.le_of_ble_eq_true rfl) (xovs (L := [(10, b0, f0, s0), (0, b1, f1, s1), (3, b2, f2, s2)]) (h := h) [(1, (0, b1, f1, s1))] ho ⟨rfl, trivial⟩).1 (fun x => (xovs (L := [(10, b0, f0, s0), (0, b1, f1, s1), (3, b2, f2, s2)]) (h := h) [(1, (0, b1, f1, s1))] ho ⟨rfl, trivial⟩).1) (fun x hx => pX0_isIsland_ok (h := xw [(10, b0, f0, s0), (0, b1, f1, s1), (3, b2, f2, s2)] h) (f0 := f1) (xok_sub ho [1] rfl (by decide)) s1 x1 x hx) rfl (fun x2 _ => ?_)
    refine s_if_eqB (tgt := 80) (pc := 52) dX10_isSo_52 (by decide) (fun _ => ?_) (fun _ => ?_)
    · refine s_aload_n (pc := 55) 1 dX10_isSo_55 rfl ?_
      refine xg_X10_9 0 ho rfl (pc := 56) dX10_isSo_56 rfl ?_
      refine s_iload_n (pc := 59) 0 dX10_isSo_59 rfl ?_
      refine xl_10_0 0 ho rfl (pc := 60) dX10_isSo_60 ?_
      refine s_aload_n (pc := 61) 1 dX10_isSo_61 rfl ?_
      refine xg_X10_44 0 ho rfl (pc := 62) dX10_isSo_62 rfl hq_0_8 ?_
      refine xg_X10_109 2 ho rfl (pc := 65) dX10_isSo_65 rfl ?_
      refine s_iload_n (pc := 68) 2 dX10_isSo_68 rfl ?_
      refine xl_3_4 2 ho rfl (pc := 69) dX10_isSo_69 ?_
      refine s_callS (M := MX10_isSo) (As := [.int (s0.2.2.1 0 x1.toNatClampNeg), .int (s2.2.2.1 4 a0.toNatClampNeg)]) (st := []) (Ψ := fun (x : Bool) => (some (.int (b2i x)), xw [(10, b0, f0, s0), (0, b1, f1, s1), (3, b2, f2, s2)] h)) cs_X10_112 (by decide) (pc := 70) dX10_isSo_70 rfl (Nat.le_of_ble_eq_true rfl) (fun x hx => pX0_isIn_ok (s0.2.2.1 0 x1.toNatClampNeg) (s2.2.2.1 4 a0.toNatClampNeg) x hx) rfl (fun x3 _ => ?_)
      refine s_if_eqB (tgt := 80) (pc := 73) dX10_isSo_73 (by decide) (fun _ => ?_) (fun _ => ?_)
      · refine s_iconst (v := 1) (pc := 76) dX10_isSo_76 (by decide) ?_
        refine s_goto (tgt := 81) (pc := 77) dX10_isSo_77 (by decide) ?_
        exact s_zretB (b := true) (pc := 81) dX10_isSo_81 rfl (fun _ _ q => q)
      · refine s_iconst (v := 0) (pc := 80) dX10_isSo_80 (by decide) ?_
        exact s_zretB (b := false) (pc := 81) dX10_isSo_81 rfl (fun _ _ q => q)
    · refine s_iconst (v := 0) (pc := 80) dX10_isSo_80 (by decide) ?_
      exact s_zretB (b := false) (pc := 81) dX10_isSo_81 rfl (fun _ _ q => q)
  · refine s_case (c := (s2.2.2.1 2 a0.toNatClampNeg) = 21) (fun c0 => ?_) (fun n7 => ?_)
    · refine s_look (tgt := 82) (off := 63) (pc := 19) dX10_isSo_19 (by decide) (by rw [c0]; rfl) (by decide) ?_
      refine s_aload_n (pc := 82) 1 dX10_isSo_82 rfl ?_
      refine xg_X10_37 0 ho rfl (pc := 83) dX10_isSo_83 rfl hq_0_7 ?_
      refine s_iload_n (pc := 86) 0 dX10_isSo_86 rfl ?_
      refine x_callV (M := MX10_isSo) (L := [(10, b0, f0, s0), (0, b1, f1, s1), (3, b2, f2, s2)]) (h := h) (j := 1) (As := [.int x1]) (st := []) (A := fun (x : Bool) => some (.int (b2i x))) (Lc := [(0, b1, f1, s1)]) (Lr := fun (x : Bool) => [(0, b1, f1, s1)]) (L2 := fun (x : Bool) => [(10, b0, f0, s0), (0, b1, f1, s1), (3, b2, f2, s2)]) cv_X10_106 (by decide) (pc := 87) dX10_isSo_87 ho rfl xc0_0 rfl rfl (Nat.le_of_ble_eq_true rfl) (xovs (L := [(10, b0, f0, s0), (0, b1, f1, s1), (3, b2, f2, s2)]) (h := h) [(1, (0, b1, f1, s1))] ho ⟨rfl, trivial⟩).1 (fun x => (xovs (L := [(10, b0, f0, s0), (0, b1, f1, s1), (3, b2, f2, s2)]) (h := h) [(1, (0, b1, f1, s1))] ho ⟨rfl, trivial⟩).1) (fun x hx => pX0_isIsland_ok (h := xw [(10, b0, f0, s0), (0, b1, f1, s1), (3, b2, f2, s2)] h) (f0 := f1) (xok_sub ho [1] rfl (by decide)) s1 x1 x hx) rfl (fun x4 _ => ?_)
      refine s_if_eqB (tgt := 114) (pc := 90) dX10_isSo_90 (by decide) (fun _ => ?_) (fun _ => ?_)
      · refine s_aload_n (pc := 93) 1 dX10_isSo_93 rfl ?_
        refine xg_X10_37 0 ho rfl (pc := 94) dX10_isSo_94 rfl hq_0_7 ?_
        refine s_aload_n (pc := 97) 1 dX10_isSo_97 rfl ?_
        refine xg_X10_9 0 ho rfl (pc := 98) dX10_isSo_98 rfl ?_
        refine s_iload_n (pc := 101) 0 dX10_isSo_101 rfl ?_
        refine xl_10_0 0 ho rfl (pc := 102) dX10_isSo_102 ?_
        refine x_callV (M := MX10_isSo) (L := [(10, b0, f0, s0), (0, b1, f1, s1), (3, b2, f2, s2)]) (h := h) (j := 1) (As := [.int (s0.2.2.1 0 x1.toNatClampNeg)]) (st := []) (A := fun (x : Int32) => some (.int x)) (Lc := [(0, b1, f1, s1)]) (Lr := fun (x : Int32) => [(0, b1, f1, s1)]) (L2 := fun (x : Int32) => [(10, b0, f0, s0), (0, b1, f1, s1), (3, b2, f2, s2)]) cv_X10_116 (by decide) (pc := 103) dX10_isSo_103 ho rfl xc0_0 rfl rfl (Nat.le_of_ble_eq_true rfl) (xovs (L := [(10, b0, f0, s0), (0, b1, f1, s1), (3, b2, f2, s2)]) (h := h) [(1, (0, b1, f1, s1))] ho ⟨rfl, trivial⟩).1 (fun x => (xovs (L := [(10, b0, f0, s0), (0, b1, f1, s1), (3, b2, f2, s2)]) (h := h) [(1, (0, b1, f1, s1))] ho ⟨rfl, trivial⟩).1) (fun x hx => pX0_mostQuarrelling_ok (h := xw [(10, b0, f0, s0), (0, b1, f1, s1), (3, b2, f2, s2)] h) (f0 := f1) (xok_sub ho [1] rfl (by decide)) s1 (s0.2.2.1 0 x1.toNatClampNeg) x hx) rfl (fun x5 _ => ?_)
        refine s_iconst (v := (-1)) (pc := 106) dX10_isSo_106 (by decide) ?_
        refine s_icmp_ne (tgt := 114) (pc := 107) dX10_isSo_107 (by decide) (fun _ => ?_) (fun _ => ?_)
        · refine s_iconst (v := 1) (pc := 110) dX10_isSo_110 (by decide) ?_
          refine s_goto (tgt := 115) (pc := 111) dX10_isSo_111 (by decide) ?_
          exact s_zretB (b := true) (pc := 115) dX10_isSo_115 rfl (fun _ _ q => q)
        · refine s_iconst (v := 0) (pc := 114) dX10_isSo_114 (by decide) ?_
          exact s_zretB (b := false) (pc := 115) dX10_isSo_115 rfl (fun _ _ q => q)
      · refine s_iconst (v := 0) (pc := 114) dX10_isSo_114 (by decide) ?_
        exact s_zretB (b := false) (pc := 115) dX10_isSo_115 rfl (fun _ _ q => q)
    · refine s_look (tgt := 116) (off := 97) (pc := 19) dX10_isSo_19 (by decide) (lk1 (fun q => n6 (q.trans (by decide))) (lk1 (fun q => n7 (q.trans (by decide))) rfl)) (by decide) ?_
      refine s_aload_n (pc := 116) 1 dX10_isSo_116 rfl ?_
      refine xg_X10_19 0 ho rfl (pc := 117) dX10_isSo_117 rfl ?_
      refine s_aload_n (pc := 120) 1 dX10_isSo_120 rfl ?_
      refine xg_X10_44 0 ho rfl (pc := 121) dX10_isSo_121 rfl hq_0_8 ?_
      refine xg_X10_95 2 ho rfl (pc := 124) dX10_isSo_124 rfl ?_
      refine s_iload_n (pc := 127) 2 dX10_isSo_127 rfl ?_
      refine xl_3_5 2 ho rfl (pc := 128) dX10_isSo_128 ?_
      refine s_icmp_lt (tgt := 136) (pc := 129) dX10_isSo_129 (by decide) (fun _ => ?_) (fun _ => ?_)
      · refine s_iconst (v := 0) (pc := 136) dX10_isSo_136 (by decide) ?_
        exact s_zretB (b := false) (pc := 137) dX10_isSo_137 rfl (fun _ _ q => q)
      · refine s_iconst (v := 1) (pc := 132) dX10_isSo_132 (by decide) ?_
        refine s_goto (tgt := 137) (pc := 133) dX10_isSo_133 (by decide) ?_
        exact s_zretB (b := true) (pc := 137) dX10_isSo_137 rfl (fun _ _ q => q)
theorem pX10_isSo_ok (ho : xok [(10, b0), (0, b1), (3, b2)] h.2.1) (hq_0_7 : f0 7 = some b1) (hq_0_8 : f0 8 = some b2) (s0 : RS) (s1 : RS) (s2 : RS) (a0 : Int32) : ∀ x, pX10_isSo s0 s1 s2 a0 = some x → aMet l 3 yX10_isSo cX10_isSo 3 (some .boolean) [.ref b0, .int a0] (xw [(10, b0, f0, s0), (0, b1, f1, s1), (3, b2, f2, s2)] h) (some (.int (b2i x))) (xw [(10, b0, f0, s0), (0, b1, f1, s1), (3, b2, f2, s2)] h) := fun x hx => a_meth (ini := false) (y := yX10_isSo) (by decide +kernel) (fun q => by cases q) (fun _ => Nat.le_of_ble_eq_true rfl) (pX10_isSo_w ho hq_0_7 hq_0_8 s0 s1 s2 a0) x hx _ _ ⟨rfl, rfl⟩
end
section
variable {l : Launch} {n0 S0 : Nat} {h : aH} {b0 b1 b2 : Nat} {f0 f1 f2 : Nat → Option Nat}
abbrev MX10_rowAfterStep : aM := (cX10_rowAfterStep, RX10, 2, (some .int), false)
def X10_rowAfterStep_j97 (v1 : Int32) (s0 : RS) (s1 : RS) (s2 : RS) : Option (Int32 × RS) :=
  (pX10_isSo s0 s1 s2 v1).bind fun x2 =>
  if x2 = true then
    some ((v1 + (1 : Int32)), s0)
  else
    g_in v1 60 (
    some (((s2.2.2.1 7 v1.toNatClampNeg) + (1 : Int32)), s0))
theorem X10_rowAfterStep_j97_ok (ho : xok [(10, b0), (0, b1), (3, b2)] h.2.1) (hq_0_7 : f0 7 = some b1) (hq_0_8 : f0 8 = some b2) (v1 : Int32) (s0 : RS) (s1 : RS) (s2 : RS) : aS l 4 MX10_rowAfterStep n0 S0 (oΦ (fun (x : Int32 × RS) => ((some (.int x.1)), xw [(10, b0, f0, x.2), (0, b1, f1, s1), (3, b2, f2, s2)] h))) 97 [(0, .ref b0), (1, .int v1)] [] (xw [(10, b0, f0, s0), (0, b1, f1, s1), (3, b2, f2, s2)] h) (X10_rowAfterStep_j97 v1 s0 s1 s2) := by
  unfold X10_rowAfterStep_j97
  refine s_aload_n (pc := 97) 0 dX10_rowAfterStep_97 rfl ?_
  refine s_iload_n (pc := 98) 1 dX10_rowAfterStep_98 rfl ?_
  refine x_callV (M := MX10_rowAfterStep) (L := [(10, b0, f0, s0), (0, b1, f1, s1), (3, b2, f2, s2)]) (h := h) (j := 0) (As := [.int v1]) (st := []) (A := fun (x : Bool) => some (.int (b2i x))) (Lc := [(10, b0, f0, s0), (0, b1, f1, s1), (3, b2, f2, s2)]) (Lr := fun (x : Bool) => [(10, b0, f0, s0), (0, b1, f1, s1), (3, b2, f2, s2)]) (L2 := fun (x : Bool) => [(10, b0, f0, s0), (0, b1, f1, s1), (3, b2, f2, s2)]) cv_X10_98 (by decide) (pc := 99) dX10_rowAfterStep_99 ho rfl xc0_10 rfl rfl (Nat.le_of_ble_eq_true rfl) (xovs (L := [(10, b0, f0, s0), (0, b1, f1, s1), (3, b2, f2, s2)]) (h := h) [(0, (10, b0, f0, s0)), (1, (0, b1, f1, s1)), (2, (3, b2, f2, s2))] ho ⟨rfl, rfl, rfl, trivial⟩).1 (fun x => (xovs (L := [(10, b0, f0, s0), (0, b1, f1, s1), (3, b2, f2, s2)]) (h := h) [(0, (10, b0, f0, s0)), (1, (0, b1, f1, s1)), (2, (3, b2, f2, s2))] ho ⟨rfl, rfl, rfl, trivial⟩).1) (fun x hx => pX10_isSo_ok (h := xw [(10, b0, f0, s0), (0, b1, f1, s1), (3, b2, f2, s2)] h) (f0 := f0) (f1 := f1) (f2 := f2) (xok_sub ho [0, 1, 2] rfl (by decide)) hq_0_7 hq_0_8 s0 s1 s2 v1 x hx) rfl (fun x2 _ => ?_)
  refine s_if_eqB (tgt := 111) (pc := 102) dX10_rowAfterStep_102 (by decide) (fun _ => ?_) (fun _ => ?_)
  · refine s_iload_n (pc := 105) 1 dX10_rowAfterStep_105 rfl ?_
    refine s_iconst (v := 1) (pc := 106) dX10_rowAfterStep_106 (by decide) ?_
    refine s_iadd (pc := 107) dX10_rowAfterStep_107 ?_
    refine s_goto (tgt := 122) (pc := 108) dX10_rowAfterStep_108 (by decide) ?_
    exact s_iret (pc := 122) dX10_rowAfterStep_122 rfl (fun _ _ q => q)
  · refine s_aload_n (pc := 111) 0 dX10_rowAfterStep_111 rfl ?_
    refine xg_X10_44 0 ho rfl (pc := 112) dX10_rowAfterStep_112 rfl hq_0_8 ?_
    refine xg_X10_92 2 ho rfl (pc := 115) dX10_rowAfterStep_115 rfl ?_
    refine s_iload_n (pc := 118) 1 dX10_rowAfterStep_118 rfl ?_
    refine xl_3_7 2 ho rfl (pc := 119) dX10_rowAfterStep_119 ?_
    refine s_iconst (v := 1) (pc := 120) dX10_rowAfterStep_120 (by decide) ?_
    refine s_iadd (pc := 121) dX10_rowAfterStep_121 ?_
    exact s_iret (pc := 122) dX10_rowAfterStep_122 rfl (fun _ _ q => q)
def X10_rowAfterStep_j123 (v1 : Int32) (s0 : RS) (s1 : RS) (s2 : RS) : Option (Int32 × RS) :=
  (pX10_doStep s0 s1 s2 v1).bind fun x3 =>
  if x3.1 = true then
    some ((v1 + (1 : Int32)), x3.2)
  else
    thn (uI x3.2 3 ((x3.2.1 3) + (1 : Int32))) fun s_4 =>
    some ((v1 + (1 : Int32)), s_4)
theorem X10_rowAfterStep_j123_ok (ho : xok [(10, b0), (0, b1), (3, b2)] h.2.1) (hq_0_7 : f0 7 = some b1) (hq_0_8 : f0 8 = some b2) (v1 : Int32) (s0 : RS) (s1 : RS) (s2 : RS) : aS l 4 MX10_rowAfterStep n0 S0 (oΦ (fun (x : Int32 × RS) => ((some (.int x.1)), xw [(10, b0, f0, x.2), (0, b1, f1, s1), (3, b2, f2, s2)] h))) 123 [(0, .ref b0), (1, .int v1)] [] (xw [(10, b0, f0, s0), (0, b1, f1, s1), (3, b2, f2, s2)] h) (X10_rowAfterStep_j123 v1 s0 s1 s2) := by
  unfold X10_rowAfterStep_j123
  refine s_aload_n (pc := 123) 0 dX10_rowAfterStep_123 rfl ?_
  refine s_iload_n (pc := 124) 1 dX10_rowAfterStep_124 rfl ?_
  refine x_callV (M := MX10_rowAfterStep) (L := [(10, b0, f0, s0), (0, b1, f1, s1), (3, b2, f2, s2)]) (h := h) (j := 0) (As := [.int v1]) (st := []) (A := fun (x : Bool × RS) => some (.int (b2i x.1))) (Lc := [(10, b0, f0, s0), (0, b1, f1, s1), (3, b2, f2, s2)]) (Lr := fun (x : Bool × RS) => [(10, b0, f0, x.2), (0, b1, f1, s1), (3, b2, f2, s2)]) (L2 := fun (x : Bool × RS) => [(10, b0, f0, x.2), (0, b1, f1, s1), (3, b2, f2, s2)]) cv_X10_101 (by decide) (pc := 125) dX10_rowAfterStep_125 ho rfl xc0_10 rfl rfl (Nat.le_of_ble_eq_true rfl) (xovs (L := [(10, b0, f0, s0), (0, b1, f1, s1), (3, b2, f2, s2)]) (h := h) [(0, (10, b0, f0, s0)), (1, (0, b1, f1, s1)), (2, (3, b2, f2, s2))] ho ⟨rfl, rfl, rfl, trivial⟩).1 (fun x => (xovs (L := [(10, b0, f0, s0), (0, b1, f1, s1), (3, b2, f2, s2)]) (h := h) [(0, (10, b0, f0, x.2)), (1, (0, b1, f1, s1)), (2, (3, b2, f2, s2))] ho ⟨rfl, rfl, rfl, trivial⟩).1) (fun x hx => pX10_doStep_ok (h := xw [(10, b0, f0, s0), (0, b1, f1, s1), (3, b2, f2, s2)] h) (f0 := f0) (f1 := f1) (f2 := f2) (xok_sub ho [0, 1, 2] rfl (by decide)) hq_0_7 hq_0_8 s0 s1 s2 v1 x hx) rfl (fun x3 _ => ?_)
  refine s_if_neB (tgt := 141) (pc := 128) dX10_rowAfterStep_128 (by decide) (fun _ => ?_) (fun _ => ?_)
  · refine s_iload_n (pc := 141) 1 dX10_rowAfterStep_141 rfl ?_
    refine s_iconst (v := 1) (pc := 142) dX10_rowAfterStep_142 (by decide) ?_
    refine s_iadd (pc := 143) dX10_rowAfterStep_143 ?_
    exact s_iret (pc := 144) dX10_rowAfterStep_144 rfl (fun _ _ q => q)
  · refine s_aload_n (pc := 131) 0 dX10_rowAfterStep_131 rfl ?_
    refine s_dup (pc := 132) dX10_rowAfterStep_132 rfl ?_
    refine xg_X10_22 0 ho rfl (pc := 133) dX10_rowAfterStep_133 rfl ?_
    refine s_iconst (v := 1) (pc := 136) dX10_rowAfterStep_136 (by decide) ?_
    refine s_iadd (pc := 137) dX10_rowAfterStep_137 ?_
    refine xp_X10_22 (L' := fun s_4 => [(10, b0, f0, s_4), (0, b1, f1, s1), (3, b2, f2, s2)]) 0 ho rfl (fun _ => rfl) (pc := 138) dX10_rowAfterStep_138 rfl (fun s_4 => ?_)
    refine s_iload_n (pc := 141) 1 dX10_rowAfterStep_141 rfl ?_
    refine s_iconst (v := 1) (pc := 142) dX10_rowAfterStep_142 (by decide) ?_
    refine s_iadd (pc := 143) dX10_rowAfterStep_143 ?_
    exact s_iret (pc := 144) dX10_rowAfterStep_144 rfl (fun _ _ q => q)
def pX10_rowAfterStep (s0 : RS) (s1 : RS) (s2 : RS) (a0 : Int32) : Option (Int32 × RS) :=
  if (s0.1 1) < (300 : Int32) then
    thn (uI s0 1 ((s0.1 1) + (1 : Int32))) fun s_1 =>
    g_in a0 60 (
    if (s2.2.2.1 2 a0.toNatClampNeg) = 20 then
      X10_rowAfterStep_j97 a0 s_1 s1 s2
    else
      if (s2.2.2.1 2 a0.toNatClampNeg) = 21 then
        X10_rowAfterStep_j97 a0 s_1 s1 s2
      else
        if (s2.2.2.1 2 a0.toNatClampNeg) = 22 then
          X10_rowAfterStep_j97 a0 s_1 s1 s2
        else
          if (s2.2.2.1 2 a0.toNatClampNeg) = 23 then
            X10_rowAfterStep_j123 a0 s_1 s1 s2
          else
            if (s2.2.2.1 2 a0.toNatClampNeg) = 24 then
              X10_rowAfterStep_j123 a0 s_1 s1 s2
            else
              if (s2.2.2.1 2 a0.toNatClampNeg) = 25 then
                g_in a0 60 (
                g_in a0 60 (thn (uA s_1 15 (upd (s_1.2.2.1 15) a0.toNatClampNeg (s2.2.2.1 5 a0.toNatClampNeg))) fun s_5 =>
                some ((a0 + (1 : Int32)), s_5)))
              else
                if (s2.2.2.1 2 a0.toNatClampNeg) = 26 then
                  X10_rowAfterStep_j123 a0 s_1 s1 s2
                else
                  if (s2.2.2.1 2 a0.toNatClampNeg) = 27 then
                    some ((-1 : Int32), s_1)
                  else
                    X10_rowAfterStep_j123 a0 s_1 s1 s2)
  else
    some ((-1 : Int32), s0)
theorem pX10_rowAfterStep_w (ho : xok [(10, b0), (0, b1), (3, b2)] h.2.1) (hq_0_7 : f0 7 = some b1) (hq_0_8 : f0 8 = some b2) (s0 : RS) (s1 : RS) (s2 : RS) (a0 : Int32) : aS l 4 MX10_rowAfterStep n0 S0 (oΦ (fun (x : Int32 × RS) => ((some (.int x.1)), xw [(10, b0, f0, x.2), (0, b1, f1, s1), (3, b2, f2, s2)] h))) 0 [(0, .ref b0), (1, .int a0)] [] (xw [(10, b0, f0, s0), (0, b1, f1, s1), (3, b2, f2, s2)] h) (pX10_rowAfterStep s0 s1 s2 a0) := by
  unfold pX10_rowAfterStep
  refine s_aload_n (pc := 0) 0 dX10_rowAfterStep_0 rfl ?_
  refine xg_X10_15 0 ho rfl (pc := 1) dX10_rowAfterStep_1 rfl ?_
  refine s_sipush (v := 300) (pc := 4) dX10_rowAfterStep_4 (by decide) ?_
  refine s_icmp_lt (tgt := 12) (pc := 7) dX10_rowAfterStep_7 (by decide) (fun _ => ?_) (fun _ => ?_)
  · refine s_aload_n (pc := 12) 0 dX10_rowAfterStep_12 rfl ?_
    refine s_dup (pc := 13) dX10_rowAfterStep_13 rfl ?_
    refine xg_X10_15 0 ho rfl (pc := 14) dX10_rowAfterStep_14 rfl ?_
    refine s_iconst (v := 1) (pc := 17) dX10_rowAfterStep_17 (by decide) ?_
    refine s_iadd (pc := 18) dX10_rowAfterStep_18 ?_
    refine xp_X10_15 (L' := fun s_1 => [(10, b0, f0, s_1), (0, b1, f1, s1), (3, b2, f2, s2)]) 0 ho rfl (fun _ => rfl) (pc := 19) dX10_rowAfterStep_19 rfl (fun s_1 => ?_)
    refine s_aload_n (pc := 22) 0 dX10_rowAfterStep_22 rfl ?_
    refine xg_X10_44 0 ho rfl (pc := 23) dX10_rowAfterStep_23 rfl hq_0_8 ?_
    refine xg_X10_74 2 ho rfl (pc := 26) dX10_rowAfterStep_26 rfl ?_
    refine s_iload_n (pc := 29) 1 dX10_rowAfterStep_29 rfl ?_
    refine xl_3_2 2 ho rfl (pc := 30) dX10_rowAfterStep_30 ?_
    refine s_case (c := (s2.2.2.1 2 a0.toNatClampNeg) = 20) (fun c0 => ?_) (fun n6 => ?_)
    · refine s_tabIn (tgt := 97) (off := 66) (pc := 31) dX10_rowAfterStep_31 (by rw [c0]; decide) (by rw [c0]; decide) (by rw [c0]; rfl) (by decide) ?_
      exact X10_rowAfterStep_j97_ok ho hq_0_7 hq_0_8 a0 s_1 s1 s2
    · refine s_case (c := (s2.2.2.1 2 a0.toNatClampNeg) = 21) (fun c0 => ?_) (fun n7 => ?_)
      · refine s_tabIn (tgt := 97) (off := 66) (pc := 31) dX10_rowAfterStep_31 (by rw [c0]; decide) (by rw [c0]; decide) (by rw [c0]; rfl) (by decide) ?_
        exact X10_rowAfterStep_j97_ok ho hq_0_7 hq_0_8 a0 s_1 s1 s2
      · refine s_case (c := (s2.2.2.1 2 a0.toNatClampNeg) = 22) (fun c0 => ?_) (fun n8 => ?_)
        · refine s_tabIn (tgt := 97) (off := 66) (pc := 31) dX10_rowAfterStep_31 (by rw [c0]; decide) (by rw [c0]; decide) (by rw [c0]; rfl) (by decide) ?_
          exact X10_rowAfterStep_j97_ok ho hq_0_7 hq_0_8 a0 s_1 s1 s2
        · refine s_case (c := (s2.2.2.1 2 a0.toNatClampNeg) = 23) (fun c0 => ?_) (fun n9 => ?_)
          · refine s_tabIn (tgt := 123) (off := 92) (pc := 31) dX10_rowAfterStep_31 (by rw [c0]; decide) (by rw [c0]; decide) (by rw [c0]; rfl) (by decide) ?_
            exact X10_rowAfterStep_j123_ok ho hq_0_7 hq_0_8 a0 s_1 s1 s2
          · refine s_case (c := (s2.2.2.1 2 a0.toNatClampNeg) = 24) (fun c0 => ?_) (fun n10 => ?_)
            · refine s_tabIn (tgt := 123) (off := 92) (pc := 31) dX10_rowAfterStep_31 (by rw [c0]; decide) (by rw [c0]; decide) (by rw [c0]; rfl) (by decide) ?_
              exact X10_rowAfterStep_j123_ok ho hq_0_7 hq_0_8 a0 s_1 s1 s2
            · refine s_case (c := (s2.2.2.1 2 a0.toNatClampNeg) = 25) (fun c0 => ?_) (fun n11 => ?_)
              · refine s_tabIn (tgt := 78) (off := 47) (pc := 31) dX10_rowAfterStep_31 (by rw [c0]; decide) (by rw [c0]; decide) (by rw [c0]; rfl) (by decide) ?_
                refine s_aload_n (pc := 78) 0 dX10_rowAfterStep_78 rfl ?_
                refine xg_X10_66 0 ho rfl (pc := 79) dX10_rowAfterStep_79 rfl ?_
                refine s_iload_n (pc := 82) 1 dX10_rowAfterStep_82 rfl ?_
                refine s_aload_n (pc := 83) 0 dX10_rowAfterStep_83 rfl ?_
                refine xg_X10_44 0 ho rfl (pc := 84) dX10_rowAfterStep_84 rfl hq_0_8 ?_
                refine xg_X10_95 2 ho rfl (pc := 87) dX10_rowAfterStep_87 rfl ?_
                refine s_iload_n (pc := 90) 1 dX10_rowAfterStep_90 rfl ?_
                refine xl_3_5 2 ho rfl (pc := 91) dX10_rowAfterStep_91 ?_
                refine xs_10_15 (L' := fun s_5 => [(10, b0, f0, s_5), (0, b1, f1, s1), (3, b2, f2, s2)]) 0 ho rfl (fun _ => rfl) (pc := 92) dX10_rowAfterStep_92 (fun s_5 => ?_)
                refine s_iload_n (pc := 93) 1 dX10_rowAfterStep_93 rfl ?_
                refine s_iconst (v := 1) (pc := 94) dX10_rowAfterStep_94 (by decide) ?_
                refine s_iadd (pc := 95) dX10_rowAfterStep_95 ?_
                exact s_iret (pc := 96) dX10_rowAfterStep_96 rfl (fun _ _ q => q)
              · refine s_case (c := (s2.2.2.1 2 a0.toNatClampNeg) = 26) (fun c0 => ?_) (fun n12 => ?_)
                · refine s_tabIn (tgt := 123) (off := 92) (pc := 31) dX10_rowAfterStep_31 (by rw [c0]; decide) (by rw [c0]; decide) (by rw [c0]; rfl) (by decide) ?_
                  exact X10_rowAfterStep_j123_ok ho hq_0_7 hq_0_8 a0 s_1 s1 s2
                · refine s_case (c := (s2.2.2.1 2 a0.toNatClampNeg) = 27) (fun c0 => ?_) (fun n13 => ?_)
                  · refine s_tabIn (tgt := 76) (off := 45) (pc := 31) dX10_rowAfterStep_31 (by rw [c0]; decide) (by rw [c0]; decide) (by rw [c0]; rfl) (by decide) ?_
                    refine s_iconst (v := (-1)) (pc := 76) dX10_rowAfterStep_76 (by decide) ?_
                    exact s_iret (pc := 77) dX10_rowAfterStep_77 rfl (fun _ _ q => q)
                  · refine s_tabOut (tgt := 123) (pc := 31) dX10_rowAfterStep_31 (sw_out (fun i h1 h2 => by
                      have hi : i = 20 ∨ i = 21 ∨ i = 22 ∨ i = 23 ∨ i = 24 ∨ i = 25 ∨ i = 26 ∨ i = 27 := by omega
                      rcases hi with rfl | rfl | rfl | rfl | rfl | rfl | rfl | rfl
                      · exact fun q => n6 (q.trans (by decide))
                      · exact fun q => n7 (q.trans (by decide))
                      · exact fun q => n8 (q.trans (by decide))
                      · exact fun q => n9 (q.trans (by decide))
                      · exact fun q => n10 (q.trans (by decide))
                      · exact fun q => n11 (q.trans (by decide))
                      · exact fun q => n12 (q.trans (by decide))
                      · exact fun q => n13 (q.trans (by decide)))) (by decide) ?_
                    exact X10_rowAfterStep_j123_ok ho hq_0_7 hq_0_8 a0 s_1 s1 s2
  · refine s_iconst (v := (-1)) (pc := 10) dX10_rowAfterStep_10 (by decide) ?_
    exact s_iret (pc := 11) dX10_rowAfterStep_11 rfl (fun _ _ q => q)
theorem pX10_rowAfterStep_ok (ho : xok [(10, b0), (0, b1), (3, b2)] h.2.1) (hq_0_7 : f0 7 = some b1) (hq_0_8 : f0 8 = some b2) (s0 : RS) (s1 : RS) (s2 : RS) (a0 : Int32) : ∀ x, pX10_rowAfterStep s0 s1 s2 a0 = some x → aMet l 4 yX10_rowAfterStep cX10_rowAfterStep 2 (some .int) [.ref b0, .int a0] (xw [(10, b0, f0, s0), (0, b1, f1, s1), (3, b2, f2, s2)] h) (some (.int x.1)) (xw [(10, b0, f0, x.2), (0, b1, f1, s1), (3, b2, f2, s2)] h) := fun x hx => a_meth (ini := false) (y := yX10_rowAfterStep) (by decide +kernel) (fun q => by cases q) (fun _ => Nat.le_of_ble_eq_true rfl) (pX10_rowAfterStep_w ho hq_0_7 hq_0_8 s0 s1 s2 a0) x hx _ _ ⟨rfl, rfl⟩
end
section
variable {l : Launch} {n0 S0 : Nat} {h : aH} {b0 b1 b2 b3 : Nat} {f0 f1 f2 f3 : Nat → Option Nat}
abbrev MX10_run : aM := (cX10_run, RX10, 7, none, false)
def X10_run_x13 (l : Launch) (n0 S0 : Nat) (h : aH) (b0 : Nat) (b1 : Nat) (b2 : Nat) (b3 : Nat) (f0 : Nat → Option Nat) (f1 : Nat → Option Nat) (f2 : Nat → Option Nat) (f3 : Nat → Option Nat) (v4 : Int32) (s1 : RS) (s2 : RS) (s3 : RS) : RS → Option Value → aH → Prop := fun (x : RS) r h' => aEv l 5 MX10_run n0 S0 43 [(0, .ref b0), (4, .int v4)] [] (xw [(10, b0, f0, x), (0, b1, f1, s1), (3, b2, f2, s2), (7, b3, f3, s3)] h) r h'
def X10_run_b13 (v4 : Int32) (v5 : Int32) (s0 : RS) (s1 : RS) (s2 : RS) (s3 : RS) : Option ((Int32 × RS) ⊕ RS) :=
  if (4 : Int32) ≤ v5 then
    some (.inr s0)
  else
    if (4 : Int32) ≤ v5 then
      some (.inr s0)
    else
      g_in v5 4 (
      g_in v5 4 (thn (uA s0 0 (upd (s0.2.2.1 0) v5.toNatClampNeg (s3.2.2.1 2 v5.toNatClampNeg))) fun s_1 =>
      thn (v5 + 1) fun x2 =>
      some (.inl (x2, s_1))))
theorem X10_run_b13_ok (ho : xok [(10, b0), (0, b1), (3, b2), (7, b3)] h.2.1) (hq_0_7 : f0 7 = some b1) (hq_0_8 : f0 8 = some b2) (v4 : Int32) (v5 : Int32) (s0 : RS) (s1 : RS) (s2 : RS) (s3 : RS) : aS l 5 MX10_run n0 S0 (a_LΦ (X10_run_x13 l n0 S0 h b0 b1 b2 b3 f0 f1 f2 f3 v4 s1 s2 s3) l 5 MX10_run n0 S0 13 (fun (q : Int32 × RS) => [(0, .ref b0), (3, .ref (b3 + 15)), (4, .int v4), (5, .int q.1)]) (fun _ => []) (fun (q : Int32 × RS) => xw [(10, b0, f0, q.2), (0, b1, f1, s1), (3, b2, f2, s2), (7, b3, f3, s3)] h)) 13 [(0, .ref b0), (3, .ref (b3 + 15)), (4, .int v4), (5, .int v5)] [] (xw [(10, b0, f0, s0), (0, b1, f1, s1), (3, b2, f2, s2), (7, b3, f3, s3)] h) (X10_run_b13 v4 v5 s0 s1 s2 s3) := by
  unfold X10_run_b13
  refine s_iload (pc := 13) 3 dX10_run_13 rfl ?_
  refine s_iconst (v := 4) (pc := 15) dX10_run_15 (by decide) ?_
  refine s_icmp_ge (tgt := 43) (pc := 16) dX10_run_16 (by decide) (fun _ => ?_) (fun _ => ?_)
  · refine s_sub [0, 2] rfl ?_
    exact s_ev (fun _ _ q => q)
  · refine s_iload (pc := 19) 3 dX10_run_19 rfl ?_
    refine s_aload_n (pc := 21) 1 dX10_run_21 rfl ?_
    refine xn_7_2 3 ho rfl (pc := 22) dX10_run_22 ?_
    refine s_icmp_ge (tgt := 43) (pc := 23) dX10_run_23 (by decide) (fun _ => ?_) (fun _ => ?_)
    · refine s_sub [0, 2] rfl ?_
      exact s_ev (fun _ _ q => q)
    · refine s_aload_n (pc := 26) 0 dX10_run_26 rfl ?_
      refine xg_X10_9 0 ho rfl (pc := 27) dX10_run_27 rfl ?_
      refine s_iload (pc := 30) 3 dX10_run_30 rfl ?_
      refine s_aload_n (pc := 32) 1 dX10_run_32 rfl ?_
      refine s_iload (pc := 33) 3 dX10_run_33 rfl ?_
      refine xl_7_2 3 ho rfl (pc := 35) dX10_run_35 ?_
      refine xs_10_0 (L' := fun s_1 => [(10, b0, f0, s_1), (0, b1, f1, s1), (3, b2, f2, s2), (7, b3, f3, s3)]) 0 ho rfl (fun _ => rfl) (pc := 36) dX10_run_36 (fun s_1 => ?_)
      refine s_iincT (pc := 37) 3 (lv' := fun x2 => [(5, .int x2), (0, .ref b0), (3, .ref (b3 + 15)), (4, .int v4)]) dX10_run_37 rfl rfl (by decide) (fun _ => rfl) (fun x2 => ?_)
      refine s_goto (tgt := 13) (pc := 40) dX10_run_40 (by decide) ?_
      refine s_sub [1, 2, 3, 0] rfl ?_
      exact s_ev (fun _ _ q => q)
def X10_run_x90 (l : Launch) (n0 S0 : Nat) (h : aH) (b0 : Nat) (b1 : Nat) (b2 : Nat) (b3 : Nat) (f0 : Nat → Option Nat) (f1 : Nat → Option Nat) (f2 : Nat → Option Nat) (f3 : Nat → Option Nat) (s1 : RS) (s2 : RS) (s3 : RS) : RS → Option Value → aH → Prop := fun (x : RS) r h' => aEv l 5 MX10_run n0 S0 144 [] [] (xw [(10, b0, f0, x), (0, b1, f1, s1), (3, b2, f2, s2), (7, b3, f3, s3)] h) r h'
def X10_run_j136 (v6 : Int32) (k0 : Int32) (s0 : RS) (s1 : RS) (s2 : RS) (s3 : RS) : Option ((Int32 × Int32 × RS) ⊕ RS) :=
  thn (v6 + 1) fun x14 =>
  some (.inl (k0, x14, s0))
theorem X10_run_j136_ok (ho : xok [(10, b0), (0, b1), (3, b2), (7, b3)] h.2.1) (hq_0_7 : f0 7 = some b1) (hq_0_8 : f0 8 = some b2) (v6 : Int32) (k0 : Int32) (s0 : RS) (s1 : RS) (s2 : RS) (s3 : RS) : aS l 5 MX10_run n0 S0 (a_LΦ (X10_run_x90 l n0 S0 h b0 b1 b2 b3 f0 f1 f2 f3 s1 s2 s3) l 5 MX10_run n0 S0 90 (fun (q : Int32 × Int32 × RS) => [(0, .ref b0), (5, .int q.1), (6, .int q.2.1)]) (fun _ => []) (fun (q : Int32 × Int32 × RS) => xw [(10, b0, f0, q.2.2), (0, b1, f1, s1), (3, b2, f2, s2), (7, b3, f3, s3)] h)) 136 [(0, .ref b0), (6, .int v6)] [.int k0] (xw [(10, b0, f0, s0), (0, b1, f1, s1), (3, b2, f2, s2), (7, b3, f3, s3)] h) (X10_run_j136 v6 k0 s0 s1 s2 s3) := by
  unfold X10_run_j136
  refine s_istore (lv' := [(5, .int k0), (0, .ref b0), (6, .int v6)]) (pc := 136) dX10_run_136 (by decide) rfl ?_
  refine s_iincT (pc := 138) 2 (lv' := fun x14 => [(6, .int x14), (5, .int k0), (0, .ref b0)]) dX10_run_138 rfl rfl (by decide) (fun _ => rfl) (fun x14 => ?_)
  refine s_goto (tgt := 90) (pc := 141) dX10_run_141 (by decide) ?_
  refine s_sub [2, 1, 0] rfl ?_
  exact s_ev (fun _ _ q => q)
def X10_run_b90 (v5 : Int32) (v6 : Int32) (s0 : RS) (s1 : RS) (s2 : RS) (s3 : RS) : Option ((Int32 × Int32 × RS) ⊕ RS) :=
  if (1000000 : Int32) ≤ v6 then
    some (.inr s0)
  else
    (pX10_isRow s0 s1 s2 v5).bind fun x12 =>
    if x12 = true then
      g_in v5 60 (
      if (s2.2.2.1 2 v5.toNatClampNeg) = (26 : Int32) then
        (pX10_rowAfterEnd s0 s1 s2 v5).bind fun x15 =>
        X10_run_j136 v6 x15.1 x15.2 s1 s2 s3
      else
        (pX10_rowAfterStep s0 s1 s2 v5).bind fun x13 =>
        X10_run_j136 v6 x13.1 x13.2 s1 s2 s3)
    else
      some (.inr s0)
theorem X10_run_b90_ok (ho : xok [(10, b0), (0, b1), (3, b2), (7, b3)] h.2.1) (hq_0_7 : f0 7 = some b1) (hq_0_8 : f0 8 = some b2) (v5 : Int32) (v6 : Int32) (s0 : RS) (s1 : RS) (s2 : RS) (s3 : RS) : aS l 5 MX10_run n0 S0 (a_LΦ (X10_run_x90 l n0 S0 h b0 b1 b2 b3 f0 f1 f2 f3 s1 s2 s3) l 5 MX10_run n0 S0 90 (fun (q : Int32 × Int32 × RS) => [(0, .ref b0), (5, .int q.1), (6, .int q.2.1)]) (fun _ => []) (fun (q : Int32 × Int32 × RS) => xw [(10, b0, f0, q.2.2), (0, b1, f1, s1), (3, b2, f2, s2), (7, b3, f3, s3)] h)) 90 [(0, .ref b0), (5, .int v5), (6, .int v6)] [] (xw [(10, b0, f0, s0), (0, b1, f1, s1), (3, b2, f2, s2), (7, b3, f3, s3)] h) (X10_run_b90 v5 v6 s0 s1 s2 s3) := by
  unfold X10_run_b90
  refine s_iload (pc := 90) 2 dX10_run_90 rfl ?_
  refine s_ldc (v := 1000000) (pc := 92) dX10_run_92 wk_X10_69 ?_
  refine s_icmp_ge (tgt := 144) (pc := 94) dX10_run_94 (by decide) (fun _ => ?_) (fun _ => ?_)
  · refine s_sub [] rfl ?_
    exact s_ev (fun _ _ q => q)
  · refine s_aload_n (pc := 97) 0 dX10_run_97 rfl ?_
    refine s_iload (pc := 98) 1 dX10_run_98 rfl ?_
    refine x_callV (M := MX10_run) (L := [(10, b0, f0, s0), (0, b1, f1, s1), (3, b2, f2, s2), (7, b3, f3, s3)]) (h := h) (j := 0) (As := [.int v5]) (st := []) (A := fun (x : Bool) => some (.int (b2i x))) (Lc := [(10, b0, f0, s0), (0, b1, f1, s1), (3, b2, f2, s2)]) (Lr := fun (x : Bool) => [(10, b0, f0, s0), (0, b1, f1, s1), (3, b2, f2, s2)]) (L2 := fun (x : Bool) => [(10, b0, f0, s0), (0, b1, f1, s1), (3, b2, f2, s2), (7, b3, f3, s3)]) cv_X10_70 (by decide) (pc := 100) dX10_run_100 ho rfl xc0_10 rfl rfl (Nat.le_of_ble_eq_true rfl) (xovs (L := [(10, b0, f0, s0), (0, b1, f1, s1), (3, b2, f2, s2), (7, b3, f3, s3)]) (h := h) [(0, (10, b0, f0, s0)), (1, (0, b1, f1, s1)), (2, (3, b2, f2, s2))] ho ⟨rfl, rfl, rfl, trivial⟩).1 (fun x => (xovs (L := [(10, b0, f0, s0), (0, b1, f1, s1), (3, b2, f2, s2), (7, b3, f3, s3)]) (h := h) [(0, (10, b0, f0, s0)), (1, (0, b1, f1, s1)), (2, (3, b2, f2, s2))] ho ⟨rfl, rfl, rfl, trivial⟩).1) (fun x hx => pX10_isRow_ok (h := xw [(10, b0, f0, s0), (0, b1, f1, s1), (3, b2, f2, s2), (7, b3, f3, s3)] h) (f0 := f0) (f1 := f1) (f2 := f2) (xok_sub ho [0, 1, 2] rfl (by decide)) hq_0_7 hq_0_8 s0 s1 s2 v5 x hx) rfl (fun x12 _ => ?_)
    refine s_if_eqB (tgt := 144) (pc := 103) dX10_run_103 (by decide) (fun _ => ?_) (fun _ => ?_)
    · refine s_aload_n (pc := 106) 0 dX10_run_106 rfl ?_
      refine xg_X10_44 0 ho rfl (pc := 107) dX10_run_107 rfl hq_0_8 ?_
      refine xg_X10_74 2 ho rfl (pc := 110) dX10_run_110 rfl ?_
      refine s_iload (pc := 113) 1 dX10_run_113 rfl ?_
      refine xl_3_2 2 ho rfl (pc := 115) dX10_run_115 ?_
      refine s_bipush (v := 26) (pc := 116) dX10_run_116 (by decide) ?_
      refine s_icmp_ne (tgt := 130) (pc := 118) dX10_run_118 (by decide) (fun _ => ?_) (fun _ => ?_)
      · refine s_aload_n (pc := 121) 0 dX10_run_121 rfl ?_
        refine s_iload (pc := 122) 1 dX10_run_122 rfl ?_
        refine x_callV (M := MX10_run) (L := [(10, b0, f0, s0), (0, b1, f1, s1), (3, b2, f2, s2), (7, b3, f3, s3)]) (h := h) (j := 0) (As := [.int v5]) (st := []) (A := fun (x : Int32 × RS) => some (.int x.1)) (Lc := [(10, b0, f0, s0), (0, b1, f1, s1), (3, b2, f2, s2)]) (Lr := fun (x : Int32 × RS) => [(10, b0, f0, x.2), (0, b1, f1, s1), (3, b2, f2, s2)]) (L2 := fun (x : Int32 × RS) => [(10, b0, f0, x.2), (0, b1, f1, s1), (3, b2, f2, s2), (7, b3, f3, s3)]) cv_X10_79 (by decide) (pc := 124) dX10_run_124 ho rfl xc0_10 rfl rfl (Nat.le_of_ble_eq_true rfl) (xovs (L := [(10, b0, f0, s0), (0, b1, f1, s1), (3, b2, f2, s2), (7, b3, f3, s3)]) (h := h) [(0, (10, b0, f0, s0)), (1, (0, b1, f1, s1)), (2, (3, b2, f2, s2))] ho ⟨rfl, rfl, rfl, trivial⟩).1 (fun x => (xovs (L := [(10, b0, f0, s0), (0, b1, f1, s1), (3, b2, f2, s2), (7, b3, f3, s3)]) (h := h) [(0, (10, b0, f0, x.2)), (1, (0, b1, f1, s1)), (2, (3, b2, f2, s2))] ho ⟨rfl, rfl, rfl, trivial⟩).1) (fun x hx => pX10_rowAfterEnd_ok (h := xw [(10, b0, f0, s0), (0, b1, f1, s1), (3, b2, f2, s2), (7, b3, f3, s3)] h) (f0 := f0) (f1 := f1) (f2 := f2) (xok_sub ho [0, 1, 2] rfl (by decide)) hq_0_7 hq_0_8 s0 s1 s2 v5 x hx) rfl (fun x15 _ => ?_)
        refine s_goto (tgt := 136) (pc := 127) dX10_run_127 (by decide) ?_
        refine s_sub [0, 2] rfl ?_
        exact X10_run_j136_ok ho hq_0_7 hq_0_8 v6 x15.1 x15.2 s1 s2 s3
      · refine s_aload_n (pc := 130) 0 dX10_run_130 rfl ?_
        refine s_iload (pc := 131) 1 dX10_run_131 rfl ?_
        refine x_callV (M := MX10_run) (L := [(10, b0, f0, s0), (0, b1, f1, s1), (3, b2, f2, s2), (7, b3, f3, s3)]) (h := h) (j := 0) (As := [.int v5]) (st := []) (A := fun (x : Int32 × RS) => some (.int x.1)) (Lc := [(10, b0, f0, s0), (0, b1, f1, s1), (3, b2, f2, s2)]) (Lr := fun (x : Int32 × RS) => [(10, b0, f0, x.2), (0, b1, f1, s1), (3, b2, f2, s2)]) (L2 := fun (x : Int32 × RS) => [(10, b0, f0, x.2), (0, b1, f1, s1), (3, b2, f2, s2), (7, b3, f3, s3)]) cv_X10_83 (by decide) (pc := 133) dX10_run_133 ho rfl xc0_10 rfl rfl (Nat.le_of_ble_eq_true rfl) (xovs (L := [(10, b0, f0, s0), (0, b1, f1, s1), (3, b2, f2, s2), (7, b3, f3, s3)]) (h := h) [(0, (10, b0, f0, s0)), (1, (0, b1, f1, s1)), (2, (3, b2, f2, s2))] ho ⟨rfl, rfl, rfl, trivial⟩).1 (fun x => (xovs (L := [(10, b0, f0, s0), (0, b1, f1, s1), (3, b2, f2, s2), (7, b3, f3, s3)]) (h := h) [(0, (10, b0, f0, x.2)), (1, (0, b1, f1, s1)), (2, (3, b2, f2, s2))] ho ⟨rfl, rfl, rfl, trivial⟩).1) (fun x hx => pX10_rowAfterStep_ok (h := xw [(10, b0, f0, s0), (0, b1, f1, s1), (3, b2, f2, s2), (7, b3, f3, s3)] h) (f0 := f0) (f1 := f1) (f2 := f2) (xok_sub ho [0, 1, 2] rfl (by decide)) hq_0_7 hq_0_8 s0 s1 s2 v5 x hx) rfl (fun x13 _ => ?_)
        refine s_sub [0, 2] rfl ?_
        exact X10_run_j136_ok ho hq_0_7 hq_0_8 v6 x13.1 x13.2 s1 s2 s3
    · refine s_sub [] rfl ?_
      exact s_ev (fun _ _ q => q)
def X10_run_j43 (v4 : Int32) (s0 : RS) (s1 : RS) (s2 : RS) (s3 : RS) : Option RS :=
  thn (uI s0 1 (0 : Int32)) fun s_4 =>
  thn (uI s_4 2 (0 : Int32)) fun s_5 =>
  thn (uI s_5 3 (0 : Int32)) fun s_6 =>
  thn (uI s_6 4 (0 : Int32)) fun s_7 =>
  thn (uI s_7 5 (0 : Int32)) fun s_8 =>
  thn (uI s_8 6 (0 : Int32)) fun s_9 =>
  thn (uI s_9 10 (0 : Int32)) fun s_10 =>
  thn (uI s_10 9 v4) fun s_11 =>
  (a_loop (fun (q : Int32 × Int32 × RS) => X10_run_b90 q.1 q.2.1 q.2.2 s1 s2 s3) FU ((0 : Int32), (0 : Int32), s_11)).bind fun (t16 : RS) =>
    some t16
theorem X10_run_j43_ok (ho : xok [(10, b0), (0, b1), (3, b2), (7, b3)] h.2.1) (hq_0_7 : f0 7 = some b1) (hq_0_8 : f0 8 = some b2) (v4 : Int32) (s0 : RS) (s1 : RS) (s2 : RS) (s3 : RS) : aS l 5 MX10_run n0 S0 (oΦ (fun (x : RS) => (none, xw [(10, b0, f0, x), (0, b1, f1, s1), (3, b2, f2, s2), (7, b3, f3, s3)] h))) 43 [(0, .ref b0), (4, .int v4)] [] (xw [(10, b0, f0, s0), (0, b1, f1, s1), (3, b2, f2, s2), (7, b3, f3, s3)] h) (X10_run_j43 v4 s0 s1 s2 s3) := by
  unfold X10_run_j43
  refine s_aload_n (pc := 43) 0 dX10_run_43 rfl ?_
  refine s_iconst (v := 0) (pc := 44) dX10_run_44 (by decide) ?_
  refine xp_X10_15 (L' := fun s_4 => [(10, b0, f0, s_4), (0, b1, f1, s1), (3, b2, f2, s2), (7, b3, f3, s3)]) 0 ho rfl (fun _ => rfl) (pc := 45) dX10_run_45 rfl (fun s_4 => ?_)
  refine s_aload_n (pc := 48) 0 dX10_run_48 rfl ?_
  refine s_iconst (v := 0) (pc := 49) dX10_run_49 (by decide) ?_
  refine xp_X10_19 (L' := fun s_5 => [(10, b0, f0, s_5), (0, b1, f1, s1), (3, b2, f2, s2), (7, b3, f3, s3)]) 0 ho rfl (fun _ => rfl) (pc := 50) dX10_run_50 rfl (fun s_5 => ?_)
  refine s_aload_n (pc := 53) 0 dX10_run_53 rfl ?_
  refine s_iconst (v := 0) (pc := 54) dX10_run_54 (by decide) ?_
  refine xp_X10_22 (L' := fun s_6 => [(10, b0, f0, s_6), (0, b1, f1, s1), (3, b2, f2, s2), (7, b3, f3, s3)]) 0 ho rfl (fun _ => rfl) (pc := 55) dX10_run_55 rfl (fun s_6 => ?_)
  refine s_aload_n (pc := 58) 0 dX10_run_58 rfl ?_
  refine s_iconst (v := 0) (pc := 59) dX10_run_59 (by decide) ?_
  refine xp_X10_25 (L' := fun s_7 => [(10, b0, f0, s_7), (0, b1, f1, s1), (3, b2, f2, s2), (7, b3, f3, s3)]) 0 ho rfl (fun _ => rfl) (pc := 60) dX10_run_60 rfl (fun s_7 => ?_)
  refine s_aload_n (pc := 63) 0 dX10_run_63 rfl ?_
  refine s_iconst (v := 0) (pc := 64) dX10_run_64 (by decide) ?_
  refine xp_X10_28 (L' := fun s_8 => [(10, b0, f0, s_8), (0, b1, f1, s1), (3, b2, f2, s2), (7, b3, f3, s3)]) 0 ho rfl (fun _ => rfl) (pc := 65) dX10_run_65 rfl (fun s_8 => ?_)
  refine s_aload_n (pc := 68) 0 dX10_run_68 rfl ?_
  refine s_iconst (v := 0) (pc := 69) dX10_run_69 (by decide) ?_
  refine xp_X10_31 (L' := fun s_9 => [(10, b0, f0, s_9), (0, b1, f1, s1), (3, b2, f2, s2), (7, b3, f3, s3)]) 0 ho rfl (fun _ => rfl) (pc := 70) dX10_run_70 rfl (fun s_9 => ?_)
  refine s_aload_n (pc := 73) 0 dX10_run_73 rfl ?_
  refine s_iconst (v := 0) (pc := 74) dX10_run_74 (by decide) ?_
  refine xp_X10_51 (L' := fun s_10 => [(10, b0, f0, s_10), (0, b1, f1, s1), (3, b2, f2, s2), (7, b3, f3, s3)]) 0 ho rfl (fun _ => rfl) (pc := 75) dX10_run_75 rfl (fun s_10 => ?_)
  refine s_aload_n (pc := 78) 0 dX10_run_78 rfl ?_
  refine s_iload (pc := 79) 1 dX10_run_79 rfl ?_
  refine xp_X10_48 (L' := fun s_11 => [(10, b0, f0, s_11), (0, b1, f1, s1), (3, b2, f2, s2), (7, b3, f3, s3)]) 0 ho rfl (fun _ => rfl) (pc := 81) dX10_run_81 rfl (fun s_11 => ?_)
  refine s_iconst (v := 0) (pc := 84) dX10_run_84 (by decide) ?_
  refine s_istore (lv' := [(5, .int 0), (0, .ref b0), (4, .int v4)]) (pc := 85) dX10_run_85 (by decide) rfl ?_
  refine s_iconst (v := 0) (pc := 87) dX10_run_87 (by decide) ?_
  refine s_istore (lv' := [(6, .int 0), (5, .int 0), (0, .ref b0), (4, .int v4)]) (pc := 88) dX10_run_88 (by decide) rfl ?_
  refine s_bind (Ψ := X10_run_x90 l n0 S0 h b0 b1 b2 b3 f0 f1 f2 f3 s1 s2 s3) ?_ ?_
  · refine s_sub [2, 1, 0] rfl ?_
    exact s_loop (lvf := fun (q : Int32 × Int32 × RS) => [(0, .ref b0), (5, .int q.1), (6, .int q.2.1)]) (stf := fun _ => []) (hf := fun (q : Int32 × Int32 × RS) => xw [(10, b0, f0, q.2.2), (0, b1, f1, s1), (3, b2, f2, s2), (7, b3, f3, s3)] h) (fun q => X10_run_b90_ok ho hq_0_7 hq_0_8 q.1 q.2.1 q.2.2 s1 s2 s3) FU ((0 : Int32), (0 : Int32), s_11)
  · intro t16 z r h' hz hr
    refine (?_ : aS l 5 MX10_run n0 S0 (oΦ (fun (x : RS) => (none, xw [(10, b0, f0, x), (0, b1, f1, s1), (3, b2, f2, s2), (7, b3, f3, s3)] h))) 144 [] [] (xw [(10, b0, f0, t16), (0, b1, f1, s1), (3, b2, f2, s2), (7, b3, f3, s3)] h) _) z hz r h' hr
    exact s_vret (pc := 144) dX10_run_144 rfl (fun _ _ q => q)
def pX10_run (s0 : RS) (s1 : RS) (s2 : RS) (s3 : RS) (a3 : Int32) : Option RS :=
  (a_loop (fun (q : Int32 × RS) => X10_run_b13 a3 q.1 q.2 s1 s2 s3) FU ((0 : Int32), s0)).bind fun (t3 : RS) =>
    X10_run_j43 a3 t3 s1 s2 s3
theorem pX10_run_w (ho : xok [(10, b0), (0, b1), (3, b2), (7, b3)] h.2.1) (s0 : RS) (s1 : RS) (s2 : RS) (s3 : RS) (a3 : Int32) : aS l 5 MX10_run n0 S0 (oΦ (fun (x : RS) => (none, xw [(10, b0, (va_up (va_up f0 7 (some b1)) 8 (some b2)), x), (0, b1, f1, s1), (3, b2, f2, s2), (7, b3, f3, s3)] h))) 0 [(0, .ref b0), (1, .ref b1), (2, .ref b2), (3, .ref (b3 + 15)), (4, .int a3)] [] (xw [(10, b0, f0, s0), (0, b1, f1, s1), (3, b2, f2, s2), (7, b3, f3, s3)] h) (pX10_run s0 s1 s2 s3 a3) := by
  unfold pX10_run
  refine s_aload_n (pc := 0) 0 dX10_run_0 rfl ?_
  refine s_aload_n (pc := 1) 1 dX10_run_1 rfl ?_
  refine xp_X10_37 (L2 := [(10, b0, (va_up f0 7 (some b1)), s0), (0, b1, f1, s1), (3, b2, f2, s2), (7, b3, f3, s3)]) 0 ho rfl rfl (pc := 2) dX10_run_2 rfl ?_
  refine s_aload_n (pc := 5) 0 dX10_run_5 rfl ?_
  refine s_aload_n (pc := 6) 2 dX10_run_6 rfl ?_
  refine xp_X10_44 (L2 := [(10, b0, (va_up (va_up f0 7 (some b1)) 8 (some b2)), s0), (0, b1, f1, s1), (3, b2, f2, s2), (7, b3, f3, s3)]) 0 ho rfl rfl (pc := 7) dX10_run_7 rfl ?_
  refine s_iconst (v := 0) (pc := 10) dX10_run_10 (by decide) ?_
  refine s_istore (lv' := [(5, .int 0), (0, .ref b0), (1, .ref b1), (2, .ref b2), (3, .ref (b3 + 15)), (4, .int a3)]) (pc := 11) dX10_run_11 (by decide) rfl ?_
  refine s_bind (Ψ := X10_run_x13 l n0 S0 h b0 b1 b2 b3 (va_up (va_up f0 7 (some b1)) 8 (some b2)) f1 f2 f3 a3 s1 s2 s3) ?_ ?_
  · refine s_sub [1, 4, 5, 0] rfl ?_
    exact s_loop (lvf := fun (q : Int32 × RS) => [(0, .ref b0), (3, .ref (b3 + 15)), (4, .int a3), (5, .int q.1)]) (stf := fun _ => []) (hf := fun (q : Int32 × RS) => xw [(10, b0, (va_up (va_up f0 7 (some b1)) 8 (some b2)), q.2), (0, b1, f1, s1), (3, b2, f2, s2), (7, b3, f3, s3)] h) (fun q => X10_run_b13_ok (f0 := (va_up (va_up f0 7 (some b1)) 8 (some b2))) ho rfl rfl a3 q.1 q.2 s1 s2 s3) FU ((0 : Int32), s0)
  · intro t3 z r h' hz hr
    refine (?_ : aS l 5 MX10_run n0 S0 (oΦ (fun (x : RS) => (none, xw [(10, b0, (va_up (va_up f0 7 (some b1)) 8 (some b2)), x), (0, b1, f1, s1), (3, b2, f2, s2), (7, b3, f3, s3)] h))) 43 [(0, .ref b0), (4, .int a3)] [] (xw [(10, b0, (va_up (va_up f0 7 (some b1)) 8 (some b2)), t3), (0, b1, f1, s1), (3, b2, f2, s2), (7, b3, f3, s3)] h) _) z hz r h' hr
    exact X10_run_j43_ok (f0 := (va_up (va_up f0 7 (some b1)) 8 (some b2))) ho rfl rfl a3 t3 s1 s2 s3
theorem pX10_run_ok (ho : xok [(10, b0), (0, b1), (3, b2), (7, b3)] h.2.1) (s0 : RS) (s1 : RS) (s2 : RS) (s3 : RS) (a3 : Int32) : ∀ x, pX10_run s0 s1 s2 s3 a3 = some x → aMet l 5 yX10_run cX10_run 7 none [.ref b0, .ref b1, .ref b2, .ref (b3 + 15), .int a3] (xw [(10, b0, f0, s0), (0, b1, f1, s1), (3, b2, f2, s2), (7, b3, f3, s3)] h) none (xw [(10, b0, (va_up (va_up f0 7 (some b1)) 8 (some b2)), x), (0, b1, f1, s1), (3, b2, f2, s2), (7, b3, f3, s3)] h) := fun x hx => a_meth (ini := false) (y := yX10_run) (by decide +kernel) (fun q => by cases q) (fun _ => Nat.le_of_ble_eq_true rfl) (pX10_run_w ho s0 s1 s2 s3 a3) x hx _ _ ⟨rfl, rfl⟩
end
section
variable {l : Launch} {n0 S0 : Nat} {h : aH} {b0 b1 b2 : Nat} {f0 f1 f2 : Nat → Option Nat}
abbrev MX10_allAlike : aM := (cX10_allAlike, RX10, 2, (some .boolean), false)
def X10_allAlike_x2 (l : Launch) (n0 S0 : Nat) (h : aH) (b0 : Nat) (b1 : Nat) (b2 : Nat) (f0 : Nat → Option Nat) (f1 : Nat → Option Nat) (f2 : Nat → Option Nat) (s0 : RS) (s1 : RS) (s2 : RS) : (Unit ⊕ Unit) → Option Value → aH → Prop := Sum.elim (fun (x : Unit) (r : Option Value) (h' : aH) => aEv l 0 MX10_allAlike n0 S0 28 [] [] (xw [(10, b0, f0, s0), (0, b1, f1, s1), (3, b2, f2, s2)] h) r h') (fun (x : Unit) (r : Option Value) (h' : aH) => aEv l 0 MX10_allAlike n0 S0 36 [] [] (xw [(10, b0, f0, s0), (0, b1, f1, s1), (3, b2, f2, s2)] h) r h')
def X10_allAlike_b2 (v1 : Int32) (s0 : RS) (s1 : RS) (s2 : RS) : Option (Int32 ⊕ (Unit ⊕ Unit)) :=
  if (s1.1 0) ≤ v1 then
    some (.inr (.inr ()))
  else
    g_in v1 4 (
    g_in (0 : Int32) 4 (
    if (s0.2.2.1 0 v1.toNatClampNeg) = (s0.2.2.1 0 (0 : Int32).toNatClampNeg) then
      thn (v1 + 1) fun x1 =>
      some (.inl x1)
    else
      some (.inr (.inl ()))))
theorem X10_allAlike_b2_ok (ho : xok [(10, b0), (0, b1), (3, b2)] h.2.1) (hq_0_7 : f0 7 = some b1) (hq_0_8 : f0 8 = some b2) (v1 : Int32) (s0 : RS) (s1 : RS) (s2 : RS) : aS l 0 MX10_allAlike n0 S0 (a_LΦ (X10_allAlike_x2 l n0 S0 h b0 b1 b2 f0 f1 f2 s0 s1 s2) l 0 MX10_allAlike n0 S0 2 (fun (q : Int32) => [(0, .ref b0), (1, .int q)]) (fun _ => []) (fun (q : Int32) => xw [(10, b0, f0, s0), (0, b1, f1, s1), (3, b2, f2, s2)] h)) 2 [(0, .ref b0), (1, .int v1)] [] (xw [(10, b0, f0, s0), (0, b1, f1, s1), (3, b2, f2, s2)] h) (X10_allAlike_b2 v1 s0 s1 s2) := by
  unfold X10_allAlike_b2
  refine s_iload_n (pc := 2) 1 dX10_allAlike_2 rfl ?_
  refine s_aload_n (pc := 3) 0 dX10_allAlike_3 rfl ?_
  refine xg_X10_37 0 ho rfl (pc := 4) dX10_allAlike_4 rfl hq_0_7 ?_
  refine xg_X10_89 1 ho rfl (pc := 7) dX10_allAlike_7 rfl ?_
  refine s_icmp_ge (tgt := 36) (pc := 10) dX10_allAlike_10 (by decide) (fun _ => ?_) (fun _ => ?_)
  · refine s_sub [] rfl ?_
    exact s_ev (fun _ _ q => q)
  · refine s_aload_n (pc := 13) 0 dX10_allAlike_13 rfl ?_
    refine xg_X10_9 0 ho rfl (pc := 14) dX10_allAlike_14 rfl ?_
    refine s_iload_n (pc := 17) 1 dX10_allAlike_17 rfl ?_
    refine xl_10_0 0 ho rfl (pc := 18) dX10_allAlike_18 ?_
    refine s_aload_n (pc := 19) 0 dX10_allAlike_19 rfl ?_
    refine xg_X10_9 0 ho rfl (pc := 20) dX10_allAlike_20 rfl ?_
    refine s_iconst (v := 0) (pc := 23) dX10_allAlike_23 (by decide) ?_
    refine xl_10_0 0 ho rfl (pc := 24) dX10_allAlike_24 ?_
    refine s_icmp_eq (tgt := 30) (pc := 25) dX10_allAlike_25 (by decide) (fun _ => ?_) (fun _ => ?_)
    · refine s_iincT (pc := 30) 1 (lv' := fun x1 => [(1, .int x1), (0, .ref b0)]) dX10_allAlike_30 rfl rfl (by decide) (fun _ => rfl) (fun x1 => ?_)
      refine s_goto (tgt := 2) (pc := 33) dX10_allAlike_33 (by decide) ?_
      refine s_sub [1, 0] rfl ?_
      exact s_ev (fun _ _ q => q)
    · refine s_sub [] rfl ?_
      exact s_ev (fun _ _ q => q)
def pX10_allAlike (s0 : RS) (s1 : RS) (s2 : RS) : Option Bool :=
  (a_loop (fun (q : Int32) => X10_allAlike_b2 q s0 s1 s2) FU (1 : Int32)).bind (Sum.elim (fun (t2 : Unit) =>
      some false)
    (fun (t3 : Unit) =>
      some true))
theorem pX10_allAlike_w (ho : xok [(10, b0), (0, b1), (3, b2)] h.2.1) (hq_0_7 : f0 7 = some b1) (hq_0_8 : f0 8 = some b2) (s0 : RS) (s1 : RS) (s2 : RS) : aS l 0 MX10_allAlike n0 S0 (oΦ (fun (x : Bool) => ((some (.int (b2i x))), xw [(10, b0, f0, s0), (0, b1, f1, s1), (3, b2, f2, s2)] h))) 0 [(0, .ref b0)] [] (xw [(10, b0, f0, s0), (0, b1, f1, s1), (3, b2, f2, s2)] h) (pX10_allAlike s0 s1 s2) := by
  unfold pX10_allAlike
  refine s_iconst (v := 1) (pc := 0) dX10_allAlike_0 (by decide) ?_
  refine s_istore_n (lv' := [(1, .int 1), (0, .ref b0)]) (pc := 1) dX10_allAlike_1 (by decide) rfl ?_
  refine s_bind (Ψ := X10_allAlike_x2 l n0 S0 h b0 b1 b2 f0 f1 f2 s0 s1 s2) ?_ ?_
  · refine s_sub [1, 0] rfl ?_
    exact s_loop (lvf := fun (q : Int32) => [(0, .ref b0), (1, .int q)]) (stf := fun _ => []) (hf := fun (q : Int32) => xw [(10, b0, f0, s0), (0, b1, f1, s1), (3, b2, f2, s2)] h) (fun q => X10_allAlike_b2_ok ho hq_0_7 hq_0_8 q s0 s1 s2) FU (1 : Int32)
  · intro x z r h' hz hr
    rcases x with t2 | t3
    · refine (?_ : aS l 0 MX10_allAlike n0 S0 (oΦ (fun (x : Bool) => ((some (.int (b2i x))), xw [(10, b0, f0, s0), (0, b1, f1, s1), (3, b2, f2, s2)] h))) 28 [] [] (xw [(10, b0, f0, s0), (0, b1, f1, s1), (3, b2, f2, s2)] h) _) z (show _ = some z from hz) r h' hr
      refine s_iconst (v := 0) (pc := 28) dX10_allAlike_28 (by decide) ?_
      exact s_zretB (b := false) (pc := 29) dX10_allAlike_29 rfl (fun _ _ q => q)
    · refine (?_ : aS l 0 MX10_allAlike n0 S0 (oΦ (fun (x : Bool) => ((some (.int (b2i x))), xw [(10, b0, f0, s0), (0, b1, f1, s1), (3, b2, f2, s2)] h))) 36 [] [] (xw [(10, b0, f0, s0), (0, b1, f1, s1), (3, b2, f2, s2)] h) _) z (show _ = some z from hz) r h' hr
      refine s_iconst (v := 1) (pc := 36) dX10_allAlike_36 (by decide) ?_
      exact s_zretB (b := true) (pc := 37) dX10_allAlike_37 rfl (fun _ _ q => q)
theorem pX10_allAlike_ok (ho : xok [(10, b0), (0, b1), (3, b2)] h.2.1) (hq_0_7 : f0 7 = some b1) (hq_0_8 : f0 8 = some b2) (s0 : RS) (s1 : RS) (s2 : RS) : ∀ x, pX10_allAlike s0 s1 s2 = some x → aMet l 0 yX10_allAlike cX10_allAlike 2 (some .boolean) [.ref b0] (xw [(10, b0, f0, s0), (0, b1, f1, s1), (3, b2, f2, s2)] h) (some (.int (b2i x))) (xw [(10, b0, f0, s0), (0, b1, f1, s1), (3, b2, f2, s2)] h) := fun x hx => a_meth (ini := false) (y := yX10_allAlike) (by decide +kernel) (fun q => by cases q) (fun _ => Nat.le_of_ble_eq_true rfl) (pX10_allAlike_w ho hq_0_7 hq_0_8 s0 s1 s2) x hx _ _ ⟨rfl, rfl⟩
end
section
variable {l : Launch} {n0 S0 : Nat} {h : aH} {b0 : Nat} {f0 : Nat → Option Nat}
abbrev MX11_status : aM := (cX11_status, RX11, 1, (some .int), false)
def pX11_status (s0 : RS) : Option Int32 :=
  some (s0.1 11)
theorem pX11_status_w (ho : xok [(11, b0)] h.2.1) (s0 : RS) : aS l 0 MX11_status n0 S0 (oΦ (fun (x : Int32) => ((some (.int x)), xw [(11, b0, f0, s0)] h))) 0 [(0, .ref b0)] [] (xw [(11, b0, f0, s0)] h) (pX11_status s0) := by
  unfold pX11_status
  refine s_aload_n (pc := 0) 0 dX11_status_0 rfl ?_
  refine xg_X11_69 0 ho rfl (pc := 1) dX11_status_1 rfl ?_
  exact s_iret (pc := 4) dX11_status_4 rfl (fun _ _ q => q)
theorem pX11_status_ok (ho : xok [(11, b0)] h.2.1) (s0 : RS) : ∀ x, pX11_status s0 = some x → aMet l 0 yX11_status cX11_status 1 (some .int) [.ref b0] (xw [(11, b0, f0, s0)] h) (some (.int x)) (xw [(11, b0, f0, s0)] h) := fun x hx => a_meth (ini := false) (y := yX11_status) (by decide +kernel) (fun q => by cases q) (fun _ => Nat.le_of_ble_eq_true rfl) (pX11_status_w ho s0) x hx _ _ ⟨rfl, rfl⟩
end
section
variable {l : Launch} {n0 S0 : Nat} {h : aH} {b0 : Nat} {f0 : Nat → Option Nat}
abbrev MX11_top : aM := (cX11_top, RX11, 1, (some .long), false)
def pX11_top (s0 : RS) : Option Int64 :=
  some (s0.2.1 12)
theorem pX11_top_w (ho : xok [(11, b0)] h.2.1) (s0 : RS) : aS l 0 MX11_top n0 S0 (oΦ (fun (x : Int64) => ((some (.long x)), xw [(11, b0, f0, s0)] h))) 0 [(0, .ref b0)] [] (xw [(11, b0, f0, s0)] h) (pX11_top s0) := by
  unfold pX11_top
  refine s_aload_n (pc := 0) 0 dX11_top_0 rfl ?_
  refine xg_X11_72 0 ho rfl (pc := 1) dX11_top_1 rfl ?_
  exact s_lret (pc := 4) dX11_top_4 rfl (fun _ _ q => q)
theorem pX11_top_ok (ho : xok [(11, b0)] h.2.1) (s0 : RS) : ∀ x, pX11_top s0 = some x → aMet l 0 yX11_top cX11_top 1 (some .long) [.ref b0] (xw [(11, b0, f0, s0)] h) (some (.long x)) (xw [(11, b0, f0, s0)] h) := fun x hx => a_meth (ini := false) (y := yX11_top) (by decide +kernel) (fun q => by cases q) (fun _ => Nat.le_of_ble_eq_true rfl) (pX11_top_w ho s0) x hx _ _ ⟨rfl, rfl⟩
end
section
variable {l : Launch} {n0 S0 : Nat} {h : aH} {b0 : Nat} {f0 : Nat → Option Nat}
abbrev MX11_bottom : aM := (cX11_bottom, RX11, 1, (some .long), false)
def pX11_bottom (s0 : RS) : Option Int64 :=
  some (s0.2.1 13)
theorem pX11_bottom_w (ho : xok [(11, b0)] h.2.1) (s0 : RS) : aS l 0 MX11_bottom n0 S0 (oΦ (fun (x : Int64) => ((some (.long x)), xw [(11, b0, f0, s0)] h))) 0 [(0, .ref b0)] [] (xw [(11, b0, f0, s0)] h) (pX11_bottom s0) := by
  unfold pX11_bottom
  refine s_aload_n (pc := 0) 0 dX11_bottom_0 rfl ?_
  refine xg_X11_76 0 ho rfl (pc := 1) dX11_bottom_1 rfl ?_
  exact s_lret (pc := 4) dX11_bottom_4 rfl (fun _ _ q => q)
theorem pX11_bottom_ok (ho : xok [(11, b0)] h.2.1) (s0 : RS) : ∀ x, pX11_bottom s0 = some x → aMet l 0 yX11_bottom cX11_bottom 1 (some .long) [.ref b0] (xw [(11, b0, f0, s0)] h) (some (.long x)) (xw [(11, b0, f0, s0)] h) := fun x hx => a_meth (ini := false) (y := yX11_bottom) (by decide +kernel) (fun q => by cases q) (fun _ => Nat.le_of_ble_eq_true rfl) (pX11_bottom_w ho s0) x hx _ _ ⟨rfl, rfl⟩
end
section
variable {l : Launch} {n0 S0 : Nat} {h : aH} {b0 : Nat} {f0 : Nat → Option Nat}
abbrev MX11_tell : aM := (cX11_tell, RX11, 2, (some .int), false)
def pX11_tell (s0 : RS) (a0 : Int32) : Option (Int32 × RS) :=
  thn (uI s0 11 (0 : Int32)) fun s_1 =>
  some (a0, s_1)
theorem pX11_tell_w (ho : xok [(11, b0)] h.2.1) (s0 : RS) (a0 : Int32) : aS l 0 MX11_tell n0 S0 (oΦ (fun (x : Int32 × RS) => ((some (.int x.1)), xw [(11, b0, f0, x.2)] h))) 0 [(0, .ref b0), (1, .int a0)] [] (xw [(11, b0, f0, s0)] h) (pX11_tell s0 a0) := by
  unfold pX11_tell
  refine s_aload_n (pc := 0) 0 dX11_tell_0 rfl ?_
  refine s_iconst (v := 0) (pc := 1) dX11_tell_1 (by decide) ?_
  refine xp_X11_69 (L' := fun s_1 => [(11, b0, f0, s_1)]) 0 ho rfl (fun _ => rfl) (pc := 2) dX11_tell_2 rfl (fun s_1 => ?_)
  refine s_iload_n (pc := 5) 1 dX11_tell_5 rfl ?_
  exact s_iret (pc := 6) dX11_tell_6 rfl (fun _ _ q => q)
theorem pX11_tell_ok (ho : xok [(11, b0)] h.2.1) (s0 : RS) (a0 : Int32) : ∀ x, pX11_tell s0 a0 = some x → aMet l 0 yX11_tell cX11_tell 2 (some .int) [.ref b0, .int a0] (xw [(11, b0, f0, s0)] h) (some (.int x.1)) (xw [(11, b0, f0, x.2)] h) := fun x hx => a_meth (ini := false) (y := yX11_tell) (by decide +kernel) (fun q => by cases q) (fun _ => Nat.le_of_ble_eq_true rfl) (pX11_tell_w ho s0 a0) x hx _ _ ⟨rfl, rfl⟩
end
