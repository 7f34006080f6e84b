section
variable {l : Launch} {n0 S0 : Nat} {mo : Nat} {h : aH}
abbrev MX12_readQuarreler : aM := (cX12_readQuarreler, RX12, 2, (some .int), false)
def X12_readQuarreler_j35 (v1 : Int32) (s : RS) : Option (Int32 × RS) :=
  (pX12_fail s (5 : Int32) (s.1 15)).bind fun x3 =>
  some (v1, x3)
theorem X12_readQuarreler_j35_ok (hh : mo + 18 ≤ h.2.1) (v1 : Int32) (s : RS) : aS l 5 MX12_readQuarreler n0 S0 (oΦ (fun (x : Int32 × RS) => (some (.int x.1), rH mo h x.2))) 35 [(0, .ref mo), (1, .int v1)] [] (rH mo h s) (X12_readQuarreler_j35 v1 s) := by
  unfold X12_readQuarreler_j35
  refine s_aload_n (pc := 35) 0 dX12_readQuarreler_35 rfl ?_
  refine s_iconst (v := 5) (pc := 36) dX12_readQuarreler_36 (by decide) ?_
  refine s_aload_n (pc := 37) 0 dX12_readQuarreler_37 rfl ?_
  refine rg_120 hh (pc := 38) dX12_readQuarreler_38 rfl ?_
  refine s_callV (M := MX12_readQuarreler) (As := [.int 5, .int (s.1 15)]) (st := []) (Ψ := fun (x : RS) => (none, rH mo h x)) cv_X12_215 (by decide) (pc := 41) dX12_readQuarreler_41 r_0 (r_lt (k := 0) hh (by decide)) rfl (Nat.le_of_ble_eq_true rfl) (fun x hx => pX12_fail_ok hh s (5 : Int32) (s.1 15) x hx) rfl (fun x3 _ => ?_)
  refine s_iload_n (pc := 44) 1 dX12_readQuarreler_44 rfl ?_
  exact s_iret (pc := 45) dX12_readQuarreler_45 rfl (fun _ _ q => q)
def pX12_readQuarreler (s : RS) : Option (Int32 × RS) :=
  (pX12_readTold s).bind fun x1 =>
  if (x1.2.1 12) = 0 then
    (pX12_kind x1.2 (1440 : Int32) x1.1).bind fun x2 =>
    if x2 = 0 then
      X12_readQuarreler_j35 x1.1 x1.2
    else
      (pX12_kind x1.2 (1440 : Int32) x1.1).bind fun x4 =>
      if x4 = (4 : Int32) then
        X12_readQuarreler_j35 x1.1 x1.2
      else
        some (x1.1, x1.2)
  else
    some (x1.1, x1.2)
theorem pX12_readQuarreler_w (hh : mo + 18 ≤ h.2.1) (s : RS) : aS l 5 MX12_readQuarreler n0 S0 (oΦ (fun (x : Int32 × RS) => (some (.int x.1), rH mo h x.2))) 0 [(0, .ref mo)] [] (rH mo h s) (pX12_readQuarreler s) := by
  unfold pX12_readQuarreler
  refine s_aload_n (pc := 0) 0 dX12_readQuarreler_0 rfl ?_
  refine s_callV (M := MX12_readQuarreler) (As := []) (st := []) (Ψ := fun (x : Int32 × RS) => (some (.int x.1), rH mo h x.2)) cv_X12_256 (by decide) (pc := 1) dX12_readQuarreler_1 r_0 (r_lt (k := 0) hh (by decide)) rfl (Nat.le_of_ble_eq_true rfl) (fun x hx => pX12_readTold_ok hh s x hx) rfl (fun x1 _ => ?_)
  refine s_istore_n (lv' := [(1, .int x1.1), (0, .ref mo)]) (pc := 4) dX12_readQuarreler_4 (by decide) rfl ?_
  refine s_aload_n (pc := 5) 1 dX12_readQuarreler_5 rfl ?_
  refine rg_209 hh (pc := 6) dX12_readQuarreler_6 rfl ?_
  refine s_if_ne (tgt := 44) (pc := 9) dX12_readQuarreler_9 (by decide) (fun _ => ?_) (fun _ => ?_)
  · refine s_aload_n (pc := 12) 1 dX12_readQuarreler_12 rfl ?_
    refine s_sipush (v := 1440) (pc := 13) dX12_readQuarreler_13 (by decide) ?_
    refine s_iload_n (pc := 16) 0 dX12_readQuarreler_16 rfl ?_
    refine s_callV (M := MX12_readQuarreler) (As := [.int 1440, .int x1.1]) (st := []) (Ψ := fun (x : Int32) => (some (.int x), rH mo h x1.2)) cv_X12_239 (by decide) (pc := 17) dX12_readQuarreler_17 r_0 (r_lt (k := 0) hh (by decide)) rfl (Nat.le_of_ble_eq_true rfl) (fun x hx => pX12_kind_ok hh x1.2 (1440 : Int32) x1.1 x hx) rfl (fun x2 _ => ?_)
    refine s_if_eq (tgt := 35) (pc := 20) dX12_readQuarreler_20 (by decide) (fun _ => ?_) (fun _ => ?_)
    · refine s_sub [1, 0] rfl ?_
      exact X12_readQuarreler_j35_ok hh x1.1 x1.2
    · refine s_aload_n (pc := 23) 1 dX12_readQuarreler_23 rfl ?_
      refine s_sipush (v := 1440) (pc := 24) dX12_readQuarreler_24 (by decide) ?_
      refine s_iload_n (pc := 27) 0 dX12_readQuarreler_27 rfl ?_
      refine s_callV (M := MX12_readQuarreler) (As := [.int 1440, .int x1.1]) (st := []) (Ψ := fun (x : Int32) => (some (.int x), rH mo h x1.2)) cv_X12_239 (by decide) (pc := 28) dX12_readQuarreler_28 r_0 (r_lt (k := 0) hh (by decide)) rfl (Nat.le_of_ble_eq_true rfl) (fun x hx => pX12_kind_ok hh x1.2 (1440 : Int32) x1.1 x hx) rfl (fun x4 _ => ?_)
      refine s_iconst (v := 4) (pc := 31) dX12_readQuarreler_31 (by decide) ?_
      refine s_icmp_ne (tgt := 44) (pc := 32) dX12_readQuarreler_32 (by decide) (fun _ => ?_) (fun _ => ?_)
      · refine s_sub [1, 0] rfl ?_
        exact X12_readQuarreler_j35_ok hh x1.1 x1.2
      · refine s_iload_n (pc := 44) 0 dX12_readQuarreler_44 rfl ?_
        exact s_iret (pc := 45) dX12_readQuarreler_45 rfl (fun _ _ q => q)
  · refine s_iload_n (pc := 44) 0 dX12_readQuarreler_44 rfl ?_
    exact s_iret (pc := 45) dX12_readQuarreler_45 rfl (fun _ _ q => q)
theorem pX12_readQuarreler_ok (hh : mo + 18 ≤ h.2.1) (s : RS) : ∀ x, pX12_readQuarreler s = some x → aMet l 5 yX12_readQuarreler cX12_readQuarreler 2 (some .int) [.ref mo] (rH mo h s) (some (.int x.1)) (rH mo h x.2) := fun x hx => a_meth (ini := false) (y := yX12_readQuarreler) (by decide +kernel) (fun q => by cases q) (fun _ => Nat.le_of_ble_eq_true rfl) (pX12_readQuarreler_w hh s) x hx _ _ ⟨rfl, rfl⟩
end
section
variable {l : Launch} {n0 S0 : Nat} {mo : Nat} {h : aH}
abbrev MX12_readSettle : aM := (cX12_readSettle, RX12, 4, (some .int), false)
def X12_readSettle_j59 (v1 : Int32) (v2 : Int32) (v3 : Int32) (s : RS) : Option (Int32 × RS) :=
  (pX12_must s true).bind fun x8 =>
  if (x8.1 12) ≤ 0 then
    g_in ((1490 : Int32) + v1) 1800 (thn (uA x8 4 (upd (x8.2.2.1 4) ((1490 : Int32) + v1).toNatClampNeg v2)) fun s9 =>
    g_in ((1506 : Int32) + v1) 1800 (thn (uA s9 4 (upd (s9.2.2.1 4) ((1506 : Int32) + v1).toNatClampNeg v3)) fun s10 =>
    some ((((1 : Int32) <<< (v2 &&& 31)) ||| ((1 : Int32) <<< (v3 &&& 31))), s10)))
  else
    some ((0 : Int32), x8)
theorem X12_readSettle_j59_ok (hh : mo + 18 ≤ h.2.1) (v1 : Int32) (v2 : Int32) (v3 : Int32) (s : RS) : aS l 6 MX12_readSettle n0 S0 (oΦ (fun (x : Int32 × RS) => (some (.int x.1), rH mo h x.2))) 59 [(0, .ref mo), (1, .int v1), (2, .int v2), (3, .int v3)] [] (rH mo h s) (X12_readSettle_j59 v1 v2 v3 s) := by
  unfold X12_readSettle_j59
  refine s_aload_n (pc := 59) 0 dX12_readSettle_59 rfl ?_
  refine s_iconst (v := 1) (pc := 60) dX12_readSettle_60 (by decide) ?_
  refine s_callV (M := MX12_readSettle) (As := [.int 1]) (st := []) (Ψ := fun (x : RS) => (none, rH mo h x)) cv_X12_252 (by decide) (pc := 61) dX12_readSettle_61 r_0 (r_lt (k := 0) hh (by decide)) rfl (Nat.le_of_ble_eq_true rfl) (fun x hx => pX12_must_ok hh s true x hx) rfl (fun x8 _ => ?_)
  refine s_aload_n (pc := 64) 0 dX12_readSettle_64 rfl ?_
  refine rg_209 hh (pc := 65) dX12_readSettle_65 rfl ?_
  refine s_if_le (tgt := 73) (pc := 68) dX12_readSettle_68 (by decide) (fun _ => ?_) (fun _ => ?_)
  · refine s_aload_n (pc := 73) 0 dX12_readSettle_73 rfl ?_
    refine rg_35 hh (pc := 74) dX12_readSettle_74 rfl ?_
    refine s_sipush (v := 1490) (pc := 77) dX12_readSettle_77 (by decide) ?_
    refine s_iload_n (pc := 80) 1 dX12_readSettle_80 rfl ?_
    refine s_iadd (pc := 81) dX12_readSettle_81 ?_
    refine s_iload_n (pc := 82) 2 dX12_readSettle_82 rfl ?_
    refine rs_4 hh (pc := 83) dX12_readSettle_83 (fun s9 => ?_)
    refine s_aload_n (pc := 84) 0 dX12_readSettle_84 rfl ?_
    refine rg_35 hh (pc := 85) dX12_readSettle_85 rfl ?_
    refine s_sipush (v := 1506) (pc := 88) dX12_readSettle_88 (by decide) ?_
    refine s_iload_n (pc := 91) 1 dX12_readSettle_91 rfl ?_
    refine s_iadd (pc := 92) dX12_readSettle_92 ?_
    refine s_iload_n (pc := 93) 3 dX12_readSettle_93 rfl ?_
    refine rs_4 hh (pc := 94) dX12_readSettle_94 (fun s10 => ?_)
    refine s_iconst (v := 1) (pc := 95) dX12_readSettle_95 (by decide) ?_
    refine s_iload_n (pc := 96) 2 dX12_readSettle_96 rfl ?_
    refine s_ishl (pc := 97) dX12_readSettle_97 ?_
    refine s_iconst (v := 1) (pc := 98) dX12_readSettle_98 (by decide) ?_
    refine s_iload_n (pc := 99) 3 dX12_readSettle_99 rfl ?_
    refine s_ishl (pc := 100) dX12_readSettle_100 ?_
    refine s_ior (pc := 101) dX12_readSettle_101 ?_
    exact s_iret (pc := 102) dX12_readSettle_102 rfl (fun _ _ q => q)
  · refine s_iconst (v := 0) (pc := 71) dX12_readSettle_71 (by decide) ?_
    exact s_iret (pc := 72) dX12_readSettle_72 rfl (fun _ _ q => q)
def pX12_readSettle (s : RS) (a0 : Int32) : Option (Int32 × RS) :=
  (pX12_isOf s).bind fun x1 =>
  (pX12_must s x1).bind fun x2 =>
  (pX12_readQuarreler x2).bind fun x3 =>
  (pX12_must x3.2 true).bind fun x4 =>
  (pX12_isNot x4).bind fun x5 =>
  (pX12_must x4 x5).bind fun x6 =>
  (pX12_readQuarreler x6).bind fun x7 =>
  if (x7.2.1 12) = 0 then
    (pX12_wouldQuarrel x7.2 (1440 : Int32) x3.1 x7.1).bind fun x11 =>
    if x11 = true then
      X12_readSettle_j59 a0 x3.1 x7.1 x7.2
    else
      (pX12_fail x7.2 (5 : Int32) (x7.2.1 15)).bind fun x12 =>
      X12_readSettle_j59 a0 x3.1 x7.1 x12
  else
    X12_readSettle_j59 a0 x3.1 x7.1 x7.2
theorem pX12_readSettle_w (hh : mo + 18 ≤ h.2.1) (s : RS) (a0 : Int32) : aS l 6 MX12_readSettle n0 S0 (oΦ (fun (x : Int32 × RS) => (some (.int x.1), rH mo h x.2))) 0 [(0, .ref mo), (1, .int a0)] [] (rH mo h s) (pX12_readSettle s a0) := by
  unfold pX12_readSettle
  refine s_aload_n (pc := 0) 0 dX12_readSettle_0 rfl ?_
  refine s_aload_n (pc := 1) 0 dX12_readSettle_1 rfl ?_
  refine s_callV (M := MX12_readSettle) (As := []) (st := [.ref mo]) (Ψ := fun (x : Bool) => (some (.int (b2i x)), rH mo h s)) cv_X12_170 (by decide) (pc := 2) dX12_readSettle_2 r_0 (r_lt (k := 0) hh (by decide)) rfl (Nat.le_of_ble_eq_true rfl) (fun x hx => pX12_isOf_ok hh s x hx) rfl (fun x1 _ => ?_)
  refine s_callV (M := MX12_readSettle) (As := [.int (b2i x1)]) (st := []) (Ψ := fun (x : RS) => (none, rH mo h x)) cv_X12_252 (by decide) (pc := 5) dX12_readSettle_5 r_0 (r_lt (k := 0) hh (by decide)) rfl (Nat.le_of_ble_eq_true rfl) (fun x hx => pX12_must_ok hh s x1 x hx) rfl (fun x2 _ => ?_)
  refine s_aload_n (pc := 8) 0 dX12_readSettle_8 rfl ?_
  refine s_callV (M := MX12_readSettle) (As := []) (st := []) (Ψ := fun (x : Int32 × RS) => (some (.int x.1), rH mo h x.2)) cv_X12_259 (by decide) (pc := 9) dX12_readSettle_9 r_0 (r_lt (k := 0) hh (by decide)) rfl (Nat.le_of_ble_eq_true rfl) (fun x hx => pX12_readQuarreler_ok hh x2 x hx) rfl (fun x3 _ => ?_)
  refine s_istore_n (lv' := [(2, .int x3.1), (0, .ref mo), (1, .int a0)]) (pc := 12) dX12_readSettle_12 (by decide) rfl ?_
  refine s_aload_n (pc := 13) 1 dX12_readSettle_13 rfl ?_
  refine s_iconst (v := 1) (pc := 14) dX12_readSettle_14 (by decide) ?_
  refine s_callV (M := MX12_readSettle) (As := [.int 1]) (st := []) (Ψ := fun (x : RS) => (none, rH mo h x)) cv_X12_252 (by decide) (pc := 15) dX12_readSettle_15 r_0 (r_lt (k := 0) hh (by decide)) rfl (Nat.le_of_ble_eq_true rfl) (fun x hx => pX12_must_ok hh x3.2 true x hx) rfl (fun x4 _ => ?_)
  refine s_aload_n (pc := 18) 1 dX12_readSettle_18 rfl ?_
  refine s_aload_n (pc := 19) 1 dX12_readSettle_19 rfl ?_
  refine s_callV (M := MX12_readSettle) (As := []) (st := [.ref mo]) (Ψ := fun (x : Bool) => (some (.int (b2i x)), rH mo h x4)) cv_X12_173 (by decide) (pc := 20) dX12_readSettle_20 r_0 (r_lt (k := 0) hh (by decide)) rfl (Nat.le_of_ble_eq_true rfl) (fun x hx => pX12_isNot_ok hh x4 x hx) rfl (fun x5 _ => ?_)
  refine s_callV (M := MX12_readSettle) (As := [.int (b2i x5)]) (st := []) (Ψ := fun (x : RS) => (none, rH mo h x)) cv_X12_252 (by decide) (pc := 23) dX12_readSettle_23 r_0 (r_lt (k := 0) hh (by decide)) rfl (Nat.le_of_ble_eq_true rfl) (fun x hx => pX12_must_ok hh x4 x5 x hx) rfl (fun x6 _ => ?_)
  refine s_aload_n (pc := 26) 1 dX12_readSettle_26 rfl ?_
  refine s_callV (M := MX12_readSettle) (As := []) (st := []) (Ψ := fun (x : Int32 × RS) => (some (.int x.1), rH mo h x.2)) cv_X12_259 (by decide) (pc := 27) dX12_readSettle_27 r_0 (r_lt (k := 0) hh (by decide)) rfl (Nat.le_of_ble_eq_true rfl) (fun x hx => pX12_readQuarreler_ok hh x6 x hx) rfl (fun x7 _ => ?_)
  refine s_istore_n (lv' := [(3, .int x7.1), (2, .int x3.1), (0, .ref mo), (1, .int a0)]) (pc := 30) dX12_readSettle_30 (by decide) rfl ?_
  refine s_aload_n (pc := 31) 2 dX12_readSettle_31 rfl ?_
  refine rg_209 hh (pc := 32) dX12_readSettle_32 rfl ?_
  refine s_if_ne (tgt := 59) (pc := 35) dX12_readSettle_35 (by decide) (fun _ => ?_) (fun _ => ?_)
  · refine s_aload_n (pc := 38) 2 dX12_readSettle_38 rfl ?_
    refine s_sipush (v := 1440) (pc := 39) dX12_readSettle_39 (by decide) ?_
    refine s_iload_n (pc := 42) 1 dX12_readSettle_42 rfl ?_
    refine s_iload_n (pc := 43) 0 dX12_readSettle_43 rfl ?_
    refine s_callV (M := MX12_readSettle) (As := [.int 1440, .int x3.1, .int x7.1]) (st := []) (Ψ := fun (x : Bool) => (some (.int (b2i x)), rH mo h x7.2)) cv_X12_262 (by decide) (pc := 44) dX12_readSettle_44 r_0 (r_lt (k := 0) hh (by decide)) rfl (Nat.le_of_ble_eq_true rfl) (fun x hx => pX12_wouldQuarrel_ok hh x7.2 (1440 : Int32) x3.1 x7.1 x hx) rfl (fun x11 _ => ?_)
    refine s_if_neB (tgt := 59) (pc := 47) dX12_readSettle_47 (by decide) (fun _ => ?_) (fun _ => ?_)
    · refine s_sub [2, 3, 1, 0] rfl ?_
      exact X12_readSettle_j59_ok hh a0 x3.1 x7.1 x7.2
    · refine s_aload_n (pc := 50) 2 dX12_readSettle_50 rfl ?_
      refine s_iconst (v := 5) (pc := 51) dX12_readSettle_51 (by decide) ?_
      refine s_aload_n (pc := 52) 2 dX12_readSettle_52 rfl ?_
      refine rg_120 hh (pc := 53) dX12_readSettle_53 rfl ?_
      refine s_callV (M := MX12_readSettle) (As := [.int 5, .int (x7.2.1 15)]) (st := []) (Ψ := fun (x : RS) => (none, rH mo h x)) cv_X12_215 (by decide) (pc := 56) dX12_readSettle_56 r_0 (r_lt (k := 0) hh (by decide)) rfl (Nat.le_of_ble_eq_true rfl) (fun x hx => pX12_fail_ok hh x7.2 (5 : Int32) (x7.2.1 15) x hx) rfl (fun x12 _ => ?_)
      refine s_sub [2, 3, 1, 0] rfl ?_
      exact X12_readSettle_j59_ok hh a0 x3.1 x7.1 x12
  · refine s_sub [2, 3, 1, 0] rfl ?_
    exact X12_readSettle_j59_ok hh a0 x3.1 x7.1 x7.2
theorem pX12_readSettle_ok (hh : mo + 18 ≤ h.2.1) (s : RS) (a0 : Int32) : ∀ x, pX12_readSettle s a0 = some x → aMet l 6 yX12_readSettle cX12_readSettle 4 (some .int) [.ref mo, .int a0] (rH mo h s) (some (.int x.1)) (rH mo h x.2) := fun x hx => a_meth (ini := false) (y := yX12_readSettle) (by decide +kernel) (fun q => by cases q) (fun _ => Nat.le_of_ble_eq_true rfl) (pX12_readSettle_w hh s a0) x hx _ _ ⟨rfl, rfl⟩
end
section
variable {l : Launch} {n0 S0 : Nat} {mo : Nat} {h : aH}
abbrev MX12_readWhat : aM := (cX12_readWhat, RX12, 4, (some .int), false)
def X12_readWhat_j99 (v2 : Int32) (v3 : Int32) (s : RS) : Option (Int32 × RS) :=
  (pX12_isSays s).bind fun x5 =>
  (pX12_must s x5).bind fun x6 =>
  (pX12_count x6 (0 : Int32) (9999 : Int32)).bind fun x7 =>
  g_in ((1474 : Int32) + v2) 1800 (thn (uA x7.2 4 (upd (x7.2.2.2.1 4) ((1474 : Int32) + v2).toNatClampNeg x7.1)) fun s8 =>
  some (v3, s8))
theorem X12_readWhat_j99_ok (hh : mo + 18 ≤ h.2.1) (v2 : Int32) (v3 : Int32) (s : RS) : aS l 7 MX12_readWhat n0 S0 (oΦ (fun (x : Int32 × RS) => (some (.int x.1), rH mo h x.2))) 99 [(0, .ref mo), (2, .int v2), (3, .int v3)] [] (rH mo h s) (X12_readWhat_j99 v2 v3 s) := by
  unfold X12_readWhat_j99
  refine s_aload_n (pc := 99) 0 dX12_readWhat_99 rfl ?_
  refine s_aload_n (pc := 100) 0 dX12_readWhat_100 rfl ?_
  refine s_callV (M := MX12_readWhat) (As := []) (st := [.ref mo]) (Ψ := fun (x : Bool) => (some (.int (b2i x)), rH mo h s)) cv_X12_167 (by decide) (pc := 101) dX12_readWhat_101 r_0 (r_lt (k := 0) hh (by decide)) rfl (Nat.le_of_ble_eq_true rfl) (fun x hx => pX12_isSays_ok hh s x hx) rfl (fun x5 _ => ?_)
  refine s_callV (M := MX12_readWhat) (As := [.int (b2i x5)]) (st := []) (Ψ := fun (x : RS) => (none, rH mo h x)) cv_X12_252 (by decide) (pc := 104) dX12_readWhat_104 r_0 (r_lt (k := 0) hh (by decide)) rfl (Nat.le_of_ble_eq_true rfl) (fun x hx => pX12_must_ok hh s x5 x hx) rfl (fun x6 _ => ?_)
  refine s_aload_n (pc := 107) 0 dX12_readWhat_107 rfl ?_
  refine rg_35 hh (pc := 108) dX12_readWhat_108 rfl ?_
  refine s_sipush (v := 1474) (pc := 111) dX12_readWhat_111 (by decide) ?_
  refine s_iload_n (pc := 114) 1 dX12_readWhat_114 rfl ?_
  refine s_iadd (pc := 115) dX12_readWhat_115 ?_
  refine s_aload_n (pc := 116) 0 dX12_readWhat_116 rfl ?_
  refine s_iconst (v := 0) (pc := 117) dX12_readWhat_117 (by decide) ?_
  refine s_sipush (v := 9999) (pc := 118) dX12_readWhat_118 (by decide) ?_
  refine s_callV (M := MX12_readWhat) (As := [.int 0, .int 9999]) (st := [.int ((1474 : Int32) + v2), .ref (mo + 5)]) (Ψ := fun (x : Int32 × RS) => (some (.int x.1), rH mo h x.2)) cv_X12_272 (by decide) (pc := 121) dX12_readWhat_121 r_0 (r_lt (k := 0) hh (by decide)) rfl (Nat.le_of_ble_eq_true rfl) (fun x hx => pX12_count_ok hh x6 (0 : Int32) (9999 : Int32) x hx) rfl (fun x7 _ => ?_)
  refine rs_4 hh (pc := 124) dX12_readWhat_124 (fun s8 => ?_)
  refine s_iload_n (pc := 125) 2 dX12_readWhat_125 rfl ?_
  exact s_iret (pc := 126) dX12_readWhat_126 rfl (fun _ _ q => q)
def X12_readWhat_j90 (v1 : Int32) (v2 : Int32) (v3 : Int32) (s : RS) : Option (Int32 × RS) :=
  if v1 = 0 then
    X12_readWhat_j99 v2 v3 s
  else
    if v1 = (2 : Int32) then
      X12_readWhat_j99 v2 v3 s
    else
      some (v3, s)
theorem X12_readWhat_j90_ok (hh : mo + 18 ≤ h.2.1) (v1 : Int32) (v2 : Int32) (v3 : Int32) (s : RS) : aS l 7 MX12_readWhat n0 S0 (oΦ (fun (x : Int32 × RS) => (some (.int x.1), rH mo h x.2))) 90 [(0, .ref mo), (1, .int v1), (2, .int v2), (3, .int v3)] [] (rH mo h s) (X12_readWhat_j90 v1 v2 v3 s) := by
  unfold X12_readWhat_j90
  refine s_iload_n (pc := 90) 1 dX12_readWhat_90 rfl ?_
  refine s_if_eq (tgt := 99) (pc := 91) dX12_readWhat_91 (by decide) (fun _ => ?_) (fun _ => ?_)
  · refine s_sub [0, 2, 3] rfl ?_
    exact X12_readWhat_j99_ok hh v2 v3 s
  · refine s_iload_n (pc := 94) 1 dX12_readWhat_94 rfl ?_
    refine s_iconst (v := 2) (pc := 95) dX12_readWhat_95 (by decide) ?_
    refine s_icmp_ne (tgt := 125) (pc := 96) dX12_readWhat_96 (by decide) (fun _ => ?_) (fun _ => ?_)
    · refine s_sub [0, 2, 3] rfl ?_
      exact X12_readWhat_j99_ok hh v2 v3 s
    · refine s_iload_n (pc := 125) 3 dX12_readWhat_125 rfl ?_
      exact s_iret (pc := 126) dX12_readWhat_126 rfl (fun _ _ q => q)
def X12_readWhat_j64 (v1 : Int32) (v2 : Int32) (v3 : Int32) (s : RS) : Option (Int32 × RS) :=
  (pX12_isKey s).bind fun x1 =>
  (pX12_must s x1).bind fun x2 =>
  (pX12_count x2 (0 : Int32) (9999 : Int32)).bind fun x3 =>
  g_in ((1458 : Int32) + v2) 1800 (thn (uA x3.2 4 (upd (x3.2.2.2.1 4) ((1458 : Int32) + v2).toNatClampNeg x3.1)) fun s4 =>
  X12_readWhat_j90 v1 v2 v3 s4)
theorem X12_readWhat_j64_ok (hh : mo + 18 ≤ h.2.1) (v1 : Int32) (v2 : Int32) (v3 : Int32) (s : RS) : aS l 7 MX12_readWhat n0 S0 (oΦ (fun (x : Int32 × RS) => (some (.int x.1), rH mo h x.2))) 64 [(0, .ref mo), (1, .int v1), (2, .int v2), (3, .int v3)] [] (rH mo h s) (X12_readWhat_j64 v1 v2 v3 s) := by
  unfold X12_readWhat_j64
  refine s_aload_n (pc := 64) 0 dX12_readWhat_64 rfl ?_
  refine s_aload_n (pc := 65) 0 dX12_readWhat_65 rfl ?_
  refine s_callV (M := MX12_readWhat) (As := []) (st := [.ref mo]) (Ψ := fun (x : Bool) => (some (.int (b2i x)), rH mo h s)) cv_X12_164 (by decide) (pc := 66) dX12_readWhat_66 r_0 (r_lt (k := 0) hh (by decide)) rfl (Nat.le_of_ble_eq_true rfl) (fun x hx => pX12_isKey_ok hh s x hx) rfl (fun x1 _ => ?_)
  refine s_callV (M := MX12_readWhat) (As := [.int (b2i x1)]) (st := []) (Ψ := fun (x : RS) => (none, rH mo h x)) cv_X12_252 (by decide) (pc := 69) dX12_readWhat_69 r_0 (r_lt (k := 0) hh (by decide)) rfl (Nat.le_of_ble_eq_true rfl) (fun x hx => pX12_must_ok hh s x1 x hx) rfl (fun x2 _ => ?_)
  refine s_aload_n (pc := 72) 0 dX12_readWhat_72 rfl ?_
  refine rg_35 hh (pc := 73) dX12_readWhat_73 rfl ?_
  refine s_sipush (v := 1458) (pc := 76) dX12_readWhat_76 (by decide) ?_
  refine s_iload_n (pc := 79) 2 dX12_readWhat_79 rfl ?_
  refine s_iadd (pc := 80) dX12_readWhat_80 ?_
  refine s_aload_n (pc := 81) 0 dX12_readWhat_81 rfl ?_
  refine s_iconst (v := 0) (pc := 82) dX12_readWhat_82 (by decide) ?_
  refine s_sipush (v := 9999) (pc := 83) dX12_readWhat_83 (by decide) ?_
  refine s_callV (M := MX12_readWhat) (As := [.int 0, .int 9999]) (st := [.int ((1458 : Int32) + v2), .ref (mo + 5)]) (Ψ := fun (x : Int32 × RS) => (some (.int x.1), rH mo h x.2)) cv_X12_272 (by decide) (pc := 86) dX12_readWhat_86 r_0 (r_lt (k := 0) hh (by decide)) rfl (Nat.le_of_ble_eq_true rfl) (fun x hx => pX12_count_ok hh x2 (0 : Int32) (9999 : Int32) x hx) rfl (fun x3 _ => ?_)
  refine rs_4 hh (pc := 89) dX12_readWhat_89 (fun s4 => ?_)
  exact X12_readWhat_j90_ok hh v1 v2 v3 s4
def X12_readWhat_j55 (v1 : Int32) (v2 : Int32) (v3 : Int32) (s : RS) : Option (Int32 × RS) :=
  if v1 = 0 then
    X12_readWhat_j64 v1 v2 v3 s
  else
    if v1 = (3 : Int32) then
      X12_readWhat_j64 v1 v2 v3 s
    else
      X12_readWhat_j90 v1 v2 v3 s
theorem X12_readWhat_j55_ok (hh : mo + 18 ≤ h.2.1) (v1 : Int32) (v2 : Int32) (v3 : Int32) (s : RS) : aS l 7 MX12_readWhat n0 S0 (oΦ (fun (x : Int32 × RS) => (some (.int x.1), rH mo h x.2))) 55 [(0, .ref mo), (1, .int v1), (2, .int v2), (3, .int v3)] [] (rH mo h s) (X12_readWhat_j55 v1 v2 v3 s) := by
  unfold X12_readWhat_j55
  refine s_iload_n (pc := 55) 1 dX12_readWhat_55 rfl ?_
  refine s_if_eq (tgt := 64) (pc := 56) dX12_readWhat_56 (by decide) (fun _ => ?_) (fun _ => ?_)
  · exact X12_readWhat_j64_ok hh v1 v2 v3 s
  · refine s_iload_n (pc := 59) 1 dX12_readWhat_59 rfl ?_
    refine s_iconst (v := 3) (pc := 60) dX12_readWhat_60 (by decide) ?_
    refine s_icmp_ne (tgt := 90) (pc := 61) dX12_readWhat_61 (by decide) (fun _ => ?_) (fun _ => ?_)
    · exact X12_readWhat_j64_ok hh v1 v2 v3 s
    · exact X12_readWhat_j90_ok hh v1 v2 v3 s
def X12_readWhat_j54 (v1 : Int32) (v2 : Int32) (k0 : Int32) (s : RS) : Option (Int32 × RS) :=
  X12_readWhat_j55 v1 v2 k0 s
theorem X12_readWhat_j54_ok (hh : mo + 18 ≤ h.2.1) (v1 : Int32) (v2 : Int32) (k0 : Int32) (s : RS) : aS l 7 MX12_readWhat n0 S0 (oΦ (fun (x : Int32 × RS) => (some (.int x.1), rH mo h x.2))) 54 [(0, .ref mo), (1, .int v1), (2, .int v2)] [.int k0] (rH mo h s) (X12_readWhat_j54 v1 v2 k0 s) := by
  unfold X12_readWhat_j54
  refine s_istore_n (lv' := [(3, .int k0), (0, .ref mo), (1, .int v1), (2, .int v2)]) (pc := 54) dX12_readWhat_54 (by decide) rfl ?_
  refine s_sub [1, 2, 3, 0] rfl ?_
  exact X12_readWhat_j55_ok hh v1 v2 k0 s
def pX12_readWhat (s : RS) (a0 : Int32) (a1 : Int32) : Option (Int32 × RS) :=
  if a0 = (4 : Int32) then
    (pX12_readSettle s a1).bind fun x11 =>
    some (x11.1, x11.2)
  else
    if a0 = 0 then
      X12_readWhat_j55 a0 a1 (0 : Int32) s
    else
      (pX12_readOf s).bind fun x9 =>
      g_in ((1490 : Int32) + a1) 1800 (thn (uA x9.2 4 (upd (x9.2.2.2.1 4) ((1490 : Int32) + a1).toNatClampNeg x9.1)) fun s10 =>
      if (s10.1 12) = 0 then
        g_in ((1490 : Int32) + a1) 1800 (
        X12_readWhat_j54 a0 a1 ((1 : Int32) <<< ((s10.2.2.1 4 ((1490 : Int32) + a1).toNatClampNeg) &&& 31)) s10)
      else
        X12_readWhat_j54 a0 a1 (0 : Int32) s10)
theorem pX12_readWhat_w (hh : mo + 18 ≤ h.2.1) (s : RS) (a0 : Int32) (a1 : Int32) : aS l 7 MX12_readWhat n0 S0 (oΦ (fun (x : Int32 × RS) => (some (.int x.1), rH mo h x.2))) 0 [(0, .ref mo), (1, .int a0), (2, .int a1)] [] (rH mo h s) (pX12_readWhat s a0 a1) := by
  unfold pX12_readWhat
  refine s_iload_n (pc := 0) 1 dX12_readWhat_0 rfl ?_
  refine s_iconst (v := 4) (pc := 1) dX12_readWhat_1 (by decide) ?_
  refine s_icmp_ne (tgt := 11) (pc := 2) dX12_readWhat_2 (by decide) (fun _ => ?_) (fun _ => ?_)
  · refine s_aload_n (pc := 5) 0 dX12_readWhat_5 rfl ?_
    refine s_iload_n (pc := 6) 2 dX12_readWhat_6 rfl ?_
    refine s_callV (M := MX12_readWhat) (As := [.int a1]) (st := []) (Ψ := fun (x : Int32 × RS) => (some (.int x.1), rH mo h x.2)) cv_X12_266 (by decide) (pc := 7) dX12_readWhat_7 r_0 (r_lt (k := 0) hh (by decide)) rfl (Nat.le_of_ble_eq_true rfl) (fun x hx => pX12_readSettle_ok hh s a1 x hx) rfl (fun x11 _ => ?_)
    exact s_iret (pc := 10) dX12_readWhat_10 rfl (fun _ _ q => q)
  · refine s_iconst (v := 0) (pc := 11) dX12_readWhat_11 (by decide) ?_
    refine s_istore_n (lv' := [(3, .int 0), (0, .ref mo), (1, .int a0), (2, .int a1)]) (pc := 12) dX12_readWhat_12 (by decide) rfl ?_
    refine s_iload_n (pc := 13) 2 dX12_readWhat_13 rfl ?_
    refine s_if_eq (tgt := 55) (pc := 14) dX12_readWhat_14 (by decide) (fun _ => ?_) (fun _ => ?_)
    · refine s_sub [1, 2, 3, 0] rfl ?_
      exact X12_readWhat_j55_ok hh a0 a1 (0 : Int32) s
    · refine s_aload_n (pc := 17) 1 dX12_readWhat_17 rfl ?_
      refine rg_35 hh (pc := 18) dX12_readWhat_18 rfl ?_
      refine s_sipush (v := 1490) (pc := 21) dX12_readWhat_21 (by decide) ?_
      refine s_iload_n (pc := 24) 3 dX12_readWhat_24 rfl ?_
      refine s_iadd (pc := 25) dX12_readWhat_25 ?_
      refine s_aload_n (pc := 26) 1 dX12_readWhat_26 rfl ?_
      refine s_callV (M := MX12_readWhat) (As := []) (st := [.int ((1490 : Int32) + a1), .ref (mo + 5)]) (Ψ := fun (x : Int32 × RS) => (some (.int x.1), rH mo h x.2)) cv_X12_269 (by decide) (pc := 27) dX12_readWhat_27 r_0 (r_lt (k := 0) hh (by decide)) rfl (Nat.le_of_ble_eq_true rfl) (fun x hx => pX12_readOf_ok hh s x hx) rfl (fun x9 _ => ?_)
      refine rs_4 hh (pc := 30) dX12_readWhat_30 (fun s10 => ?_)
      refine s_aload_n (pc := 31) 1 dX12_readWhat_31 rfl ?_
      refine rg_209 hh (pc := 32) dX12_readWhat_32 rfl ?_
      refine s_if_ne (tgt := 53) (pc := 35) dX12_readWhat_35 (by decide) (fun _ => ?_) (fun _ => ?_)
      · refine s_iconst (v := 1) (pc := 38) dX12_readWhat_38 (by decide) ?_
        refine s_aload_n (pc := 39) 1 dX12_readWhat_39 rfl ?_
        refine rg_35 hh (pc := 40) dX12_readWhat_40 rfl ?_
        refine s_sipush (v := 1490) (pc := 43) dX12_readWhat_43 (by decide) ?_
        refine s_iload_n (pc := 46) 3 dX12_readWhat_46 rfl ?_
        refine s_iadd (pc := 47) dX12_readWhat_47 ?_
        refine rl_4 hh (pc := 48) dX12_readWhat_48 ?_
        refine s_ishl (pc := 49) dX12_readWhat_49 ?_
        refine s_goto (tgt := 54) (pc := 50) dX12_readWhat_50 (by decide) ?_
        refine s_sub [1, 2, 3] rfl ?_
        exact X12_readWhat_j54_ok hh a0 a1 ((1 : Int32) <<< ((s10.2.2.1 4 ((1490 : Int32) + a1).toNatClampNeg) &&& 31)) s10
      · refine s_iconst (v := 0) (pc := 53) dX12_readWhat_53 (by decide) ?_
        refine s_sub [1, 2, 3] rfl ?_
        exact X12_readWhat_j54_ok hh a0 a1 (0 : Int32) s10
theorem pX12_readWhat_ok (hh : mo + 18 ≤ h.2.1) (s : RS) (a0 : Int32) (a1 : Int32) : ∀ x, pX12_readWhat s a0 a1 = some x → aMet l 7 yX12_readWhat cX12_readWhat 4 (some .int) [.ref mo, .int a0, .int a1] (rH mo h s) (some (.int x.1)) (rH mo h x.2) := fun x hx => a_meth (ini := false) (y := yX12_readWhat) (by decide +kernel) (fun q => by cases q) (fun _ => Nat.le_of_ble_eq_true rfl) (pX12_readWhat_w hh s a0 a1) x hx _ _ ⟨rfl, rfl⟩
end
section
variable {l : Launch} {n0 S0 : Nat} {mo : Nat} {h : aH}
abbrev MX12_readAfter : aM := (cX12_readAfter, RX12, 4, (some .int), false)
def X12_readAfter_x24 (l : Launch) (n0 S0 : Nat) (mo : Nat) (h : aH) : (Int32 × RS) → Option Value → aH → Prop := fun (x : Int32 × RS) r h' => aEv l 5 MX12_readAfter n0 S0 104 [(1, .int x.1)] [] (rH mo h x.2) r h'
def X12_readAfter_j100 (v1 : Int32) (k0 : Bool) (s : RS) : Option ((Int32 × Bool × RS) ⊕ (Int32 × RS)) :=
  some (.inl (v1, k0, s))
theorem X12_readAfter_j100_ok (hh : mo + 18 ≤ h.2.1) (v1 : Int32) (k0 : Bool) (s : RS) : aS l 5 MX12_readAfter n0 S0 (a_LΦ (X12_readAfter_x24 l n0 S0 mo h) l 5 MX12_readAfter n0 S0 24 (fun (q : Int32 × Bool × RS) => [(0, .ref mo), (1, .int q.1), (2, .int (b2i q.2.1))]) (fun _ => []) (fun (q : Int32 × Bool × RS) => rH mo h q.2.2)) 100 [(0, .ref mo), (1, .int v1)] [.int (b2i k0)] (rH mo h s) (X12_readAfter_j100 v1 k0 s) := by
  unfold X12_readAfter_j100
  refine s_istore_n (lv' := [(2, .int (b2i k0)), (0, .ref mo), (1, .int v1)]) (pc := 100) dX12_readAfter_100 (by decide) rfl ?_
  refine s_goto (tgt := 24) (pc := 101) dX12_readAfter_101 (by decide) ?_
  refine s_sub [1, 2, 0] rfl ?_
  exact s_ev (fun _ _ q => q)
def X12_readAfter_j85 (k0 : Int32) (k1 : Int32) (s : RS) : Option ((Int32 × Bool × RS) ⊕ (Int32 × RS)) :=
  thn (k0 ||| k1) fun x5 =>
  if (s.1 14) = (1 : Int32) then
    X12_readAfter_j100 x5 true s
  else
    X12_readAfter_j100 x5 false s
theorem X12_readAfter_j85_ok (hh : mo + 18 ≤ h.2.1) (k0 : Int32) (k1 : Int32) (s : RS) : aS l 5 MX12_readAfter n0 S0 (a_LΦ (X12_readAfter_x24 l n0 S0 mo h) l 5 MX12_readAfter n0 S0 24 (fun (q : Int32 × Bool × RS) => [(0, .ref mo), (1, .int q.1), (2, .int (b2i q.2.1))]) (fun _ => []) (fun (q : Int32 × Bool × RS) => rH mo h q.2.2)) 85 [(0, .ref mo)] [.int k1, .int k0] (rH mo h s) (X12_readAfter_j85 k0 k1 s) := by
  unfold X12_readAfter_j85
  refine s_ior (pc := 85) dX12_readAfter_85 ?_
  refine s_istore_nT (lv' := fun x5 => [(1, .int x5), (0, .ref mo)]) (pc := 86) dX12_readAfter_86 (by decide) (fun _ => rfl) (fun x5 => ?_)
  refine s_aload_n (pc := 87) 1 dX12_readAfter_87 rfl ?_
  refine rg_126 hh (pc := 88) dX12_readAfter_88 rfl ?_
  refine s_iconst (v := 1) (pc := 91) dX12_readAfter_91 (by decide) ?_
  refine s_icmp_ne (tgt := 99) (pc := 92) dX12_readAfter_92 (by decide) (fun _ => ?_) (fun _ => ?_)
  · refine s_iconst (v := 1) (pc := 95) dX12_readAfter_95 (by decide) ?_
    refine s_goto (tgt := 100) (pc := 96) dX12_readAfter_96 (by decide) ?_
    refine s_sub [1, 0] rfl ?_
    exact X12_readAfter_j100_ok hh x5 true s
  · refine s_iconst (v := 0) (pc := 99) dX12_readAfter_99 (by decide) ?_
    refine s_sub [1, 0] rfl ?_
    exact X12_readAfter_j100_ok hh x5 false s
def X12_readAfter_j65 (v1 : Int32) (v3 : Int32) (s : RS) : Option ((Int32 × Bool × RS) ⊕ (Int32 × RS)) :=
  (pX12_must s true).bind fun x4 =>
  if (x4.1 12) = 0 then
    X12_readAfter_j85 v1 ((1 : Int32) <<< (v3 &&& 31)) x4
  else
    X12_readAfter_j85 v1 (0 : Int32) x4
theorem X12_readAfter_j65_ok (hh : mo + 18 ≤ h.2.1) (v1 : Int32) (v3 : Int32) (s : RS) : aS l 5 MX12_readAfter n0 S0 (a_LΦ (X12_readAfter_x24 l n0 S0 mo h) l 5 MX12_readAfter n0 S0 24 (fun (q : Int32 × Bool × RS) => [(0, .ref mo), (1, .int q.1), (2, .int (b2i q.2.1))]) (fun _ => []) (fun (q : Int32 × Bool × RS) => rH mo h q.2.2)) 65 [(0, .ref mo), (1, .int v1), (3, .int v3)] [] (rH mo h s) (X12_readAfter_j65 v1 v3 s) := by
  unfold X12_readAfter_j65
  refine s_aload_n (pc := 65) 0 dX12_readAfter_65 rfl ?_
  refine s_iconst (v := 1) (pc := 66) dX12_readAfter_66 (by decide) ?_
  refine s_callV (M := MX12_readAfter) (As := [.int 1]) (st := []) (Ψ := fun (x : RS) => (none, rH mo h x)) cv_X12_252 (by decide) (pc := 67) dX12_readAfter_67 r_0 (r_lt (k := 0) hh (by decide)) rfl (Nat.le_of_ble_eq_true rfl) (fun x hx => pX12_must_ok hh s true x hx) rfl (fun x4 _ => ?_)
  refine s_iload_n (pc := 70) 1 dX12_readAfter_70 rfl ?_
  refine s_aload_n (pc := 71) 0 dX12_readAfter_71 rfl ?_
  refine rg_209 hh (pc := 72) dX12_readAfter_72 rfl ?_
  refine s_if_ne (tgt := 84) (pc := 75) dX12_readAfter_75 (by decide) (fun _ => ?_) (fun _ => ?_)
  · refine s_iconst (v := 1) (pc := 78) dX12_readAfter_78 (by decide) ?_
    refine s_iload_n (pc := 79) 2 dX12_readAfter_79 rfl ?_
    refine s_ishl (pc := 80) dX12_readAfter_80 ?_
    refine s_goto (tgt := 85) (pc := 81) dX12_readAfter_81 (by decide) ?_
    refine s_sub [0] rfl ?_
    exact X12_readAfter_j85_ok hh v1 ((1 : Int32) <<< (v3 &&& 31)) x4
  · refine s_iconst (v := 0) (pc := 84) dX12_readAfter_84 (by decide) ?_
    refine s_sub [0] rfl ?_
    exact X12_readAfter_j85_ok hh v1 (0 : Int32) x4
def X12_readAfter_b24 (v1 : Int32) (v2 : Bool) (s : RS) : Option ((Int32 × Bool × RS) ⊕ (Int32 × RS)) :=
  if v2 = true then
    if (s.1 12) = 0 then
      (pX12_readTold s).bind fun x3 =>
      if (x3.2.1 12) = 0 then
        if ((v1 >>> (x3.1 &&& 31)) &&& (1 : Int32)) = (1 : Int32) then
          (pX12_fail x3.2 (5 : Int32) (x3.2.1 15)).bind fun x6 =>
          X12_readAfter_j65 v1 x3.1 x6
        else
          X12_readAfter_j65 v1 x3.1 x3.2
      else
        X12_readAfter_j65 v1 x3.1 x3.2
    else
      some (.inr (v1, s))
  else
    some (.inr (v1, s))
theorem X12_readAfter_b24_ok (hh : mo + 18 ≤ h.2.1) (v1 : Int32) (v2 : Bool) (s : RS) : aS l 5 MX12_readAfter n0 S0 (a_LΦ (X12_readAfter_x24 l n0 S0 mo h) l 5 MX12_readAfter n0 S0 24 (fun (q : Int32 × Bool × RS) => [(0, .ref mo), (1, .int q.1), (2, .int (b2i q.2.1))]) (fun _ => []) (fun (q : Int32 × Bool × RS) => rH mo h q.2.2)) 24 [(0, .ref mo), (1, .int v1), (2, .int (b2i v2))] [] (rH mo h s) (X12_readAfter_b24 v1 v2 s) := by
  unfold X12_readAfter_b24
  refine s_iload_n (pc := 24) 2 dX12_readAfter_24 rfl ?_
  refine s_if_eqB (tgt := 104) (pc := 25) dX12_readAfter_25 (by decide) (fun _ => ?_) (fun _ => ?_)
  · refine s_aload_n (pc := 28) 0 dX12_readAfter_28 rfl ?_
    refine rg_209 hh (pc := 29) dX12_readAfter_29 rfl ?_
    refine s_if_ne (tgt := 104) (pc := 32) dX12_readAfter_32 (by decide) (fun _ => ?_) (fun _ => ?_)
    · refine s_aload_n (pc := 35) 0 dX12_readAfter_35 rfl ?_
      refine s_callV (M := MX12_readAfter) (As := []) (st := []) (Ψ := fun (x : Int32 × RS) => (some (.int x.1), rH mo h x.2)) cv_X12_256 (by decide) (pc := 36) dX12_readAfter_36 r_0 (r_lt (k := 0) hh (by decide)) rfl (Nat.le_of_ble_eq_true rfl) (fun x hx => pX12_readTold_ok hh s x hx) rfl (fun x3 _ => ?_)
      refine s_istore_n (lv' := [(3, .int x3.1), (0, .ref mo), (1, .int v1), (2, .int (b2i v2))]) (pc := 39) dX12_readAfter_39 (by decide) rfl ?_
      refine s_aload_n (pc := 40) 1 dX12_readAfter_40 rfl ?_
      refine rg_209 hh (pc := 41) dX12_readAfter_41 rfl ?_
      refine s_if_ne (tgt := 65) (pc := 44) dX12_readAfter_44 (by decide) (fun _ => ?_) (fun _ => ?_)
      · refine s_iload_n (pc := 47) 2 dX12_readAfter_47 rfl ?_
        refine s_iload_n (pc := 48) 0 dX12_readAfter_48 rfl ?_
        refine s_ishr (pc := 49) dX12_readAfter_49 ?_
        refine s_iconst (v := 1) (pc := 50) dX12_readAfter_50 (by decide) ?_
        refine s_iand (pc := 51) dX12_readAfter_51 ?_
        refine s_iconst (v := 1) (pc := 52) dX12_readAfter_52 (by decide) ?_
        refine s_icmp_ne (tgt := 65) (pc := 53) dX12_readAfter_53 (by decide) (fun _ => ?_) (fun _ => ?_)
        · refine s_aload_n (pc := 56) 1 dX12_readAfter_56 rfl ?_
          refine s_iconst (v := 5) (pc := 57) dX12_readAfter_57 (by decide) ?_
          refine s_aload_n (pc := 58) 1 dX12_readAfter_58 rfl ?_
          refine rg_120 hh (pc := 59) dX12_readAfter_59 rfl ?_
          refine s_callV (M := MX12_readAfter) (As := [.int 5, .int (x3.2.1 15)]) (st := []) (Ψ := fun (x : RS) => (none, rH mo h x)) cv_X12_215 (by decide) (pc := 62) dX12_readAfter_62 r_0 (r_lt (k := 0) hh (by decide)) rfl (Nat.le_of_ble_eq_true rfl) (fun x hx => pX12_fail_ok hh x3.2 (5 : Int32) (x3.2.1 15) x hx) rfl (fun x6 _ => ?_)
          refine s_sub [1, 2, 0] rfl ?_
          exact X12_readAfter_j65_ok hh v1 x3.1 x6
        · refine s_sub [1, 2, 0] rfl ?_
          exact X12_readAfter_j65_ok hh v1 x3.1 x3.2
      · refine s_sub [1, 2, 0] rfl ?_
        exact X12_readAfter_j65_ok hh v1 x3.1 x3.2
    · refine s_sub [1] rfl ?_
      exact s_ev (fun _ _ q => q)
  · refine s_sub [1] rfl ?_
    exact s_ev (fun _ _ q => q)
def pX12_readAfter (s : RS) : Option (Int32 × RS) :=
  if 0 < (s.1 12) then
    some ((0 : Int32), s)
  else
    (pX12_isAfter s).bind fun x1 =>
    if x1 = true then
      (pX12_next s).bind fun x2 =>
      (a_loop (fun (q : Int32 × Bool × RS) => X12_readAfter_b24 q.1 q.2.1 q.2.2) FU ((0 : Int32), true, x2)).bind fun (t7 : Int32 × RS) =>
        some (t7.1, t7.2)
    else
      some ((0 : Int32), s)
theorem pX12_readAfter_w (hh : mo + 18 ≤ h.2.1) (s : RS) : aS l 5 MX12_readAfter n0 S0 (oΦ (fun (x : Int32 × RS) => (some (.int x.1), rH mo h x.2))) 0 [(0, .ref mo)] [] (rH mo h s) (pX12_readAfter s) := by
  unfold pX12_readAfter
  refine s_aload_n (pc := 0) 0 dX12_readAfter_0 rfl ?_
  refine rg_209 hh (pc := 1) dX12_readAfter_1 rfl ?_
  refine s_if_gt (tgt := 14) (pc := 4) dX12_readAfter_4 (by decide) (fun _ => ?_) (fun _ => ?_)
  · refine s_iconst (v := 0) (pc := 14) dX12_readAfter_14 (by decide) ?_
    exact s_iret (pc := 15) dX12_readAfter_15 rfl (fun _ _ q => q)
  · refine s_aload_n (pc := 7) 0 dX12_readAfter_7 rfl ?_
    refine s_callV (M := MX12_readAfter) (As := []) (st := []) (Ψ := fun (x : Bool) => (some (.int (b2i x)), rH mo h s)) cv_X12_176 (by decide) (pc := 8) dX12_readAfter_8 r_0 (r_lt (k := 0) hh (by decide)) rfl (Nat.le_of_ble_eq_true rfl) (fun x hx => pX12_isAfter_ok hh s x hx) rfl (fun x1 _ => ?_)
    refine s_if_neB (tgt := 16) (pc := 11) dX12_readAfter_11 (by decide) (fun _ => ?_) (fun _ => ?_)
    · refine s_aload_n (pc := 16) 0 dX12_readAfter_16 rfl ?_
      refine s_callV (M := MX12_readAfter) (As := []) (st := []) (Ψ := fun (x : RS) => (none, rH mo h x)) cv_X12_219 (by decide) (pc := 17) dX12_readAfter_17 r_0 (r_lt (k := 0) hh (by decide)) rfl (Nat.le_of_ble_eq_true rfl) (fun x hx => pX12_next_ok hh s x hx) rfl (fun x2 _ => ?_)
      refine s_iconst (v := 0) (pc := 20) dX12_readAfter_20 (by decide) ?_
      refine s_istore_n (lv' := [(1, .int 0), (0, .ref mo)]) (pc := 21) dX12_readAfter_21 (by decide) rfl ?_
      refine s_iconst (v := 1) (pc := 22) dX12_readAfter_22 (by decide) ?_
      refine s_istore_n (lv' := [(2, .int 1), (1, .int 0), (0, .ref mo)]) (pc := 23) dX12_readAfter_23 (by decide) rfl ?_
      refine s_bind (Ψ := X12_readAfter_x24 l n0 S0 mo h) ?_ ?_
      · refine s_sub [2, 1, 0] rfl ?_
        exact s_loop (lvf := fun (q : Int32 × Bool × RS) => [(0, .ref mo), (1, .int q.1), (2, .int (b2i q.2.1))]) (stf := fun _ => []) (hf := fun (q : Int32 × Bool × RS) => rH mo h q.2.2) (fun q => X12_readAfter_b24_ok hh q.1 q.2.1 q.2.2) FU ((0 : Int32), true, x2)
      · intro t7 z r h' hz hr
        refine (?_ : aS l 5 MX12_readAfter n0 S0 (oΦ (fun (x : Int32 × RS) => (some (.int x.1), rH mo h x.2))) 104 [(1, .int t7.1)] [] (rH mo h t7.2) _) z hz r h' hr
        refine s_iload_n (pc := 104) 0 dX12_readAfter_104 rfl ?_
        exact s_iret (pc := 105) dX12_readAfter_105 rfl (fun _ _ q => q)
    · refine s_iconst (v := 0) (pc := 14) dX12_readAfter_14 (by decide) ?_
      exact s_iret (pc := 15) dX12_readAfter_15 rfl (fun _ _ q => q)
theorem pX12_readAfter_ok (hh : mo + 18 ≤ h.2.1) (s : RS) : ∀ x, pX12_readAfter s = some x → aMet l 5 yX12_readAfter cX12_readAfter 4 (some .int) [.ref mo] (rH mo h s) (some (.int x.1)) (rH mo h x.2) := fun x hx => a_meth (ini := false) (y := yX12_readAfter) (by decide +kernel) (fun q => by cases q) (fun _ => Nat.le_of_ble_eq_true rfl) (pX12_readAfter_w hh s) x hx _ _ ⟨rfl, rfl⟩
end
section
variable {l : Launch} {n0 S0 : Nat} {mo : Nat} {h : aH}
abbrev MX12_readChange : aM := (cX12_readChange, RX12, 6, none, false)
def X12_readChange_x102 (l : Launch) (n0 S0 : Nat) (mo : Nat) (h : aH) (v1 : Int32) (v3 : Int32) (s : RS) : Int32 → Option Value → aH → Prop := fun (x : Int32) r h' => aEv l 8 MX12_readChange n0 S0 142 [(0, .ref mo), (1, .int v1), (4, .int x)] [] (rH mo h s) r h'
def X12_readChange_j133 (v1 : Int32) (v3 : Int32) (v5 : Int32) (k0 : Int32) (k1 : Int32) (s : RS) : Option ((Int32 × Int32) ⊕ Int32) :=
  thn (k0 ||| k1) fun x9 =>
  thn (v5 + 1) fun x10 =>
  some (.inl (x9, x10))
theorem X12_readChange_j133_ok (hh : mo + 18 ≤ h.2.1) (v1 : Int32) (v3 : Int32) (v5 : Int32) (k0 : Int32) (k1 : Int32) (s : RS) : aS l 8 MX12_readChange n0 S0 (a_LΦ (X12_readChange_x102 l n0 S0 mo h v1 v3 s) l 8 MX12_readChange n0 S0 102 (fun (q : Int32 × Int32) => [(0, .ref mo), (1, .int v1), (3, .int v3), (4, .int q.1), (5, .int q.2)]) (fun _ => []) (fun (q : Int32 × Int32) => rH mo h s)) 133 [(0, .ref mo), (1, .int v1), (3, .int v3), (5, .int v5)] [.int k1, .int k0] (rH mo h s) (X12_readChange_j133 v1 v3 v5 k0 k1 s) := by
  unfold X12_readChange_j133
  refine s_ior (pc := 133) dX12_readChange_133 ?_
  refine s_istoreT (lv' := fun x9 => [(4, .int x9), (0, .ref mo), (1, .int v1), (3, .int v3), (5, .int v5)]) (pc := 134) dX12_readChange_134 (by decide) (fun _ => rfl) (fun x9 => ?_)
  refine s_iincT (pc := 136) 4 (lv' := fun x10 => [(5, .int x10), (4, .int x9), (0, .ref mo), (1, .int v1), (3, .int v3)]) dX12_readChange_136 rfl rfl (by decide) (fun _ => rfl) (fun x10 => ?_)
  refine s_goto (tgt := 102) (pc := 139) dX12_readChange_139 (by decide) ?_
  refine s_sub [2, 3, 4, 1, 0] rfl ?_
  exact s_ev (fun _ _ q => q)
def X12_readChange_b102 (v1 : Int32) (v3 : Int32) (v4 : Int32) (v5 : Int32) (s : RS) : Option ((Int32 × Int32) ⊕ Int32) :=
  if v1 ≤ v5 then
    some (.inr v4)
  else
    if ((v3 >>> (v5 &&& 31)) &&& (1 : Int32)) = (1 : Int32) then
      (pX12_hangsOn s (1440 : Int32) v5).bind fun x11 =>
      X12_readChange_j133 v1 v3 v5 v4 x11 s
    else
      X12_readChange_j133 v1 v3 v5 v4 (0 : Int32) s
theorem X12_readChange_b102_ok (hh : mo + 18 ≤ h.2.1) (v1 : Int32) (v3 : Int32) (v4 : Int32) (v5 : Int32) (s : RS) : aS l 8 MX12_readChange n0 S0 (a_LΦ (X12_readChange_x102 l n0 S0 mo h v1 v3 s) l 8 MX12_readChange n0 S0 102 (fun (q : Int32 × Int32) => [(0, .ref mo), (1, .int v1), (3, .int v3), (4, .int q.1), (5, .int q.2)]) (fun _ => []) (fun (q : Int32 × Int32) => rH mo h s)) 102 [(0, .ref mo), (1, .int v1), (3, .int v3), (4, .int v4), (5, .int v5)] [] (rH mo h s) (X12_readChange_b102 v1 v3 v4 v5 s) := by
  unfold X12_readChange_b102
  refine s_iload (pc := 102) 4 dX12_readChange_102 rfl ?_
  refine s_iload_n (pc := 104) 1 dX12_readChange_104 rfl ?_
  refine s_icmp_ge (tgt := 142) (pc := 105) dX12_readChange_105 (by decide) (fun _ => ?_) (fun _ => ?_)
  · refine s_sub [0, 1, 3] rfl ?_
    exact s_ev (fun _ _ q => q)
  · refine s_iload (pc := 108) 3 dX12_readChange_108 rfl ?_
    refine s_iload_n (pc := 110) 2 dX12_readChange_110 rfl ?_
    refine s_iload (pc := 111) 4 dX12_readChange_111 rfl ?_
    refine s_ishr (pc := 113) dX12_readChange_113 ?_
    refine s_iconst (v := 1) (pc := 114) dX12_readChange_114 (by decide) ?_
    refine s_iand (pc := 115) dX12_readChange_115 ?_
    refine s_iconst (v := 1) (pc := 116) dX12_readChange_116 (by decide) ?_
    refine s_icmp_ne (tgt := 132) (pc := 117) dX12_readChange_117 (by decide) (fun _ => ?_) (fun _ => ?_)
    · refine s_aload_n (pc := 120) 0 dX12_readChange_120 rfl ?_
      refine s_sipush (v := 1440) (pc := 121) dX12_readChange_121 (by decide) ?_
      refine s_iload (pc := 124) 4 dX12_readChange_124 rfl ?_
      refine s_callV (M := MX12_readChange) (As := [.int 1440, .int v5]) (st := [.int v4]) (Ψ := fun (x : Int32) => (some (.int x), rH mo h s)) cv_X12_249 (by decide) (pc := 126) dX12_readChange_126 r_0 (r_lt (k := 0) hh (by decide)) rfl (Nat.le_of_ble_eq_true rfl) (fun x hx => pX12_hangsOn_ok hh s (1440 : Int32) v5 x hx) rfl (fun x11 _ => ?_)
      refine s_goto (tgt := 133) (pc := 129) dX12_readChange_129 (by decide) ?_
      refine s_sub [0, 1, 2, 4] rfl ?_
      exact X12_readChange_j133_ok hh v1 v3 v5 v4 x11 s
    · refine s_iconst (v := 0) (pc := 132) dX12_readChange_132 (by decide) ?_
      refine s_sub [0, 1, 2, 4] rfl ?_
      exact X12_readChange_j133_ok hh v1 v3 v5 v4 (0 : Int32) s
def X12_readChange_j25 (v1 : Int32) (s : RS) : Option RS :=
  if (s.1 12) ≤ 0 then
    (pX12_kindWord s).bind fun x2 =>
    (pX12_readNew s (0 : Int32) v1).bind fun x3 =>
    if (x3.1 12) ≤ 0 then
      g_in ((1442 : Int32) + v1) 1800 (thn (uA x3 4 (upd (x3.2.2.1 4) ((1442 : Int32) + v1).toNatClampNeg x2)) fun s4 =>
      (pX12_readWhat s4 x2 v1).bind fun x5 =>
      (pX12_readAfter x5.2).bind fun x6 =>
      thn (x5.1 ||| x6.1) fun x7 =>
      if (x6.2.1 12) ≤ 0 then
        g_in ((1522 : Int32) + v1) 1800 (thn (uA x6.2 4 (upd (x6.2.2.2.1 4) ((1522 : Int32) + v1).toNatClampNeg x7)) fun s8 =>
        (a_loop (fun (q : Int32 × Int32) => X12_readChange_b102 v1 x7 q.1 q.2 s8) FU (x7, (0 : Int32))).bind fun (t12 : Int32) =>
          g_in ((1538 : Int32) + v1) 1800 (thn (uA s8 4 (upd (s8.2.2.1 4) ((1538 : Int32) + v1).toNatClampNeg t12)) fun s13 =>
          g_in (1440 : Int32) 1800 (
          g_in (1440 : Int32) 1800 (thn (uA s13 4 (upd (s13.2.2.1 4) (1440 : Int32).toNatClampNeg ((s13.2.2.1 4 (1440 : Int32).toNatClampNeg) + (1 : Int32)))) fun s14 =>
          some s14))))
      else
        some x6.2)
    else
      some x3
  else
    some s
theorem X12_readChange_j25_ok (hh : mo + 18 ≤ h.2.1) (v1 : Int32) (s : RS) : aS l 8 MX12_readChange n0 S0 (oΦ (fun (x : RS) => (none, rH mo h x))) 25 [(0, .ref mo), (1, .int v1)] [] (rH mo h s) (X12_readChange_j25 v1 s) := by
  unfold X12_readChange_j25
  refine s_aload_n (pc := 25) 0 dX12_readChange_25 rfl ?_
  refine rg_209 hh (pc := 26) dX12_readChange_26 rfl ?_
  refine s_if_le (tgt := 33) (pc := 29) dX12_readChange_29 (by decide) (fun _ => ?_) (fun _ => ?_)
  · refine s_aload_n (pc := 33) 0 dX12_readChange_33 rfl ?_
    refine s_callV (M := MX12_readChange) (As := []) (st := []) (Ψ := fun (x : Int32) => (some (.int x), rH mo h s)) cv_X12_160 (by decide) (pc := 34) dX12_readChange_34 r_0 (r_lt (k := 0) hh (by decide)) rfl (Nat.le_of_ble_eq_true rfl) (fun x hx => pX12_kindWord_ok hh s x hx) rfl (fun x2 _ => ?_)
    refine s_istore_n (lv' := [(2, .int x2), (0, .ref mo), (1, .int v1)]) (pc := 37) dX12_readChange_37 (by decide) rfl ?_
    refine s_aload_n (pc := 38) 1 dX12_readChange_38 rfl ?_
    refine s_iconst (v := 0) (pc := 39) dX12_readChange_39 (by decide) ?_
    refine s_iload_n (pc := 40) 2 dX12_readChange_40 rfl ?_
    refine s_callV (M := MX12_readChange) (As := [.int 0, .int v1]) (st := []) (Ψ := fun (x : RS) => (none, rH mo h x)) cv_X12_275 (by decide) (pc := 41) dX12_readChange_41 r_0 (r_lt (k := 0) hh (by decide)) rfl (Nat.le_of_ble_eq_true rfl) (fun x hx => pX12_readNew_ok hh s (0 : Int32) v1 x hx) rfl (fun x3 _ => ?_)
    refine s_aload_n (pc := 44) 1 dX12_readChange_44 rfl ?_
    refine rg_209 hh (pc := 45) dX12_readChange_45 rfl ?_
    refine s_if_le (tgt := 52) (pc := 48) dX12_readChange_48 (by decide) (fun _ => ?_) (fun _ => ?_)
    · refine s_aload_n (pc := 52) 1 dX12_readChange_52 rfl ?_
      refine rg_35 hh (pc := 53) dX12_readChange_53 rfl ?_
      refine s_sipush (v := 1442) (pc := 56) dX12_readChange_56 (by decide) ?_
      refine s_iload_n (pc := 59) 2 dX12_readChange_59 rfl ?_
      refine s_iadd (pc := 60) dX12_readChange_60 ?_
      refine s_iload_n (pc := 61) 0 dX12_readChange_61 rfl ?_
      refine rs_4 hh (pc := 62) dX12_readChange_62 (fun s4 => ?_)
      refine s_aload_n (pc := 63) 1 dX12_readChange_63 rfl ?_
      refine s_iload_n (pc := 64) 0 dX12_readChange_64 rfl ?_
      refine s_iload_n (pc := 65) 2 dX12_readChange_65 rfl ?_
      refine s_callV (M := MX12_readChange) (As := [.int x2, .int v1]) (st := []) (Ψ := fun (x : Int32 × RS) => (some (.int x.1), rH mo h x.2)) cv_X12_278 (by decide) (pc := 66) dX12_readChange_66 r_0 (r_lt (k := 0) hh (by decide)) rfl (Nat.le_of_ble_eq_true rfl) (fun x hx => pX12_readWhat_ok hh s4 x2 v1 x hx) rfl (fun x5 _ => ?_)
      refine s_istore_n (lv' := [(3, .int x5.1), (2, .int x2), (0, .ref mo), (1, .int v1)]) (pc := 69) dX12_readChange_69 (by decide) rfl ?_
      refine s_iload_n (pc := 70) 0 dX12_readChange_70 rfl ?_
      refine s_aload_n (pc := 71) 2 dX12_readChange_71 rfl ?_
      refine s_callV (M := MX12_readChange) (As := []) (st := [.int x5.1]) (Ψ := fun (x : Int32 × RS) => (some (.int x.1), rH mo h x.2)) cv_X12_281 (by decide) (pc := 72) dX12_readChange_72 r_0 (r_lt (k := 0) hh (by decide)) rfl (Nat.le_of_ble_eq_true rfl) (fun x hx => pX12_readAfter_ok hh x5.2 x hx) rfl (fun x6 _ => ?_)
      refine s_ior (pc := 75) dX12_readChange_75 ?_
      refine s_istore_nT (lv' := fun x7 => [(3, .int x7), (2, .int x2), (0, .ref mo), (1, .int v1)]) (pc := 76) dX12_readChange_76 (by decide) (fun _ => rfl) (fun x7 => ?_)
      refine s_aload_n (pc := 77) 2 dX12_readChange_77 rfl ?_
      refine rg_209 hh (pc := 78) dX12_readChange_78 rfl ?_
      refine s_if_le (tgt := 85) (pc := 81) dX12_readChange_81 (by decide) (fun _ => ?_) (fun _ => ?_)
      · refine s_aload_n (pc := 85) 2 dX12_readChange_85 rfl ?_
        refine rg_35 hh (pc := 86) dX12_readChange_86 rfl ?_
        refine s_sipush (v := 1522) (pc := 89) dX12_readChange_89 (by decide) ?_
        refine s_iload_n (pc := 92) 3 dX12_readChange_92 rfl ?_
        refine s_iadd (pc := 93) dX12_readChange_93 ?_
        refine s_iload_n (pc := 94) 0 dX12_readChange_94 rfl ?_
        refine rs_4 hh (pc := 95) dX12_readChange_95 (fun s8 => ?_)
        refine s_iload_n (pc := 96) 0 dX12_readChange_96 rfl ?_
        refine s_istore (lv' := [(4, .int x7), (3, .int x7), (2, .int x2), (0, .ref mo), (1, .int v1)]) (pc := 97) dX12_readChange_97 (by decide) rfl ?_
        refine s_iconst (v := 0) (pc := 99) dX12_readChange_99 (by decide) ?_
        refine s_istore (lv' := [(5, .int 0), (4, .int x7), (3, .int x7), (2, .int x2), (0, .ref mo), (1, .int v1)]) (pc := 100) dX12_readChange_100 (by decide) rfl ?_
        refine s_bind (Ψ := X12_readChange_x102 l n0 S0 mo h v1 x7 s8) ?_ ?_
        · refine s_sub [4, 5, 2, 1, 0] rfl ?_
          exact s_loop (lvf := fun (q : Int32 × Int32) => [(0, .ref mo), (1, .int v1), (3, .int x7), (4, .int q.1), (5, .int q.2)]) (stf := fun _ => []) (hf := fun (q : Int32 × Int32) => rH mo h s8) (fun q => X12_readChange_b102_ok hh v1 x7 q.1 q.2 s8) FU (x7, (0 : Int32))
        · intro t12 z r h' hz hr
          refine (?_ : aS l 8 MX12_readChange n0 S0 (oΦ (fun (x : RS) => (none, rH mo h x))) 142 [(0, .ref mo), (1, .int v1), (4, .int t12)] [] (rH mo h s8) _) z hz r h' hr
          refine s_aload_n (pc := 142) 0 dX12_readChange_142 rfl ?_
          refine rg_35 hh (pc := 143) dX12_readChange_143 rfl ?_
          refine s_sipush (v := 1538) (pc := 146) dX12_readChange_146 (by decide) ?_
          refine s_iload_n (pc := 149) 1 dX12_readChange_149 rfl ?_
          refine s_iadd (pc := 150) dX12_readChange_150 ?_
          refine s_iload (pc := 151) 2 dX12_readChange_151 rfl ?_
          refine rs_4 hh (pc := 153) dX12_readChange_153 (fun s13 => ?_)
          refine s_aload_n (pc := 154) 0 dX12_readChange_154 rfl ?_
          refine rg_35 hh (pc := 155) dX12_readChange_155 rfl ?_
          refine s_sipush (v := 1440) (pc := 158) dX12_readChange_158 (by decide) ?_
          refine s_dup2_11 (pc := 161) dX12_readChange_161 rfl rfl ?_
          refine rl_4 hh (pc := 162) dX12_readChange_162 ?_
          refine s_iconst (v := 1) (pc := 163) dX12_readChange_163 (by decide) ?_
          refine s_iadd (pc := 164) dX12_readChange_164 ?_
          refine rs_4 hh (pc := 165) dX12_readChange_165 (fun s14 => ?_)
          exact s_vret (pc := 166) dX12_readChange_166 rfl (fun _ _ q => q)
      · exact s_vret (pc := 84) dX12_readChange_84 rfl (fun _ _ q => q)
    · exact s_vret (pc := 51) dX12_readChange_51 rfl (fun _ _ q => q)
  · exact s_vret (pc := 32) dX12_readChange_32 rfl (fun _ _ q => q)
def pX12_readChange (s : RS) : Option RS :=
  g_in (1440 : Int32) 1800 (
  thn (s.2.2.1 4 (1440 : Int32).toNatClampNeg) fun x1 =>
  if x1 = (16 : Int32) then
    (pX12_fail s (6 : Int32) (s.1 15)).bind fun x15 =>
    X12_readChange_j25 x1 x15
  else
    X12_readChange_j25 x1 s)
theorem pX12_readChange_w (hh : mo + 18 ≤ h.2.1) (s : RS) : aS l 8 MX12_readChange n0 S0 (oΦ (fun (x : RS) => (none, rH mo h x))) 0 [(0, .ref mo)] [] (rH mo h s) (pX12_readChange s) := by
  unfold pX12_readChange
  refine s_aload_n (pc := 0) 0 dX12_readChange_0 rfl ?_
  refine rg_35 hh (pc := 1) dX12_readChange_1 rfl ?_
  refine s_sipush (v := 1440) (pc := 4) dX12_readChange_4 (by decide) ?_
  refine rl_4 hh (pc := 7) dX12_readChange_7 ?_
  refine s_istore_nT (lv' := fun x1 => [(1, .int x1), (0, .ref mo)]) (pc := 8) dX12_readChange_8 (by decide) (fun _ => rfl) (fun x1 => ?_)
  refine s_iload_n (pc := 9) 0 dX12_readChange_9 rfl ?_
  refine s_bipush (v := 16) (pc := 10) dX12_readChange_10 (by decide) ?_
  refine s_icmp_ne (tgt := 25) (pc := 12) dX12_readChange_12 (by decide) (fun _ => ?_) (fun _ => ?_)
  · refine s_aload_n (pc := 15) 1 dX12_readChange_15 rfl ?_
    refine s_bipush (v := 6) (pc := 16) dX12_readChange_16 (by decide) ?_
    refine s_aload_n (pc := 18) 1 dX12_readChange_18 rfl ?_
    refine rg_120 hh (pc := 19) dX12_readChange_19 rfl ?_
    refine s_callV (M := MX12_readChange) (As := [.int 6, .int (s.1 15)]) (st := []) (Ψ := fun (x : RS) => (none, rH mo h x)) cv_X12_215 (by decide) (pc := 22) dX12_readChange_22 r_0 (r_lt (k := 0) hh (by decide)) rfl (Nat.le_of_ble_eq_true rfl) (fun x hx => pX12_fail_ok hh s (6 : Int32) (s.1 15) x hx) rfl (fun x15 _ => ?_)
    refine s_sub [1, 0] rfl ?_
    exact X12_readChange_j25_ok hh x1 x15
  · refine s_sub [1, 0] rfl ?_
    exact X12_readChange_j25_ok hh x1 s
theorem pX12_readChange_ok (hh : mo + 18 ≤ h.2.1) (s : RS) : ∀ x, pX12_readChange s = some x → aMet l 8 yX12_readChange cX12_readChange 6 none [.ref mo] (rH mo h s) none (rH mo h x) := fun x hx => a_meth (ini := false) (y := yX12_readChange) (by decide +kernel) (fun q => by cases q) (fun _ => Nat.le_of_ble_eq_true rfl) (pX12_readChange_w hh s) x hx _ _ ⟨rfl, rfl⟩
end
section
variable {l : Launch} {n0 S0 : Nat} {mo : Nat} {h : aH}
abbrev MX12_readIsland : aM := (cX12_readIsland, RX12, 2, none, false)
def X12_readIsland_j24 (v1 : Int32) (s : RS) : Option RS :=
  if (s.1 12) ≤ 0 then
    (pX12_readNew s (16 : Int32) v1).bind fun x2 =>
    if (x2.1 12) = 0 then
      g_in (1441 : Int32) 1800 (
      g_in (1441 : Int32) 1800 (thn (uA x2 4 (upd (x2.2.2.1 4) (1441 : Int32).toNatClampNeg ((x2.2.2.1 4 (1441 : Int32).toNatClampNeg) + (1 : Int32)))) fun s3 =>
      some s3))
    else
      some x2
  else
    some s
theorem X12_readIsland_j24_ok (hh : mo + 18 ≤ h.2.1) (v1 : Int32) (s : RS) : aS l 5 MX12_readIsland n0 S0 (oΦ (fun (x : RS) => (none, rH mo h x))) 24 [(0, .ref mo), (1, .int v1)] [] (rH mo h s) (X12_readIsland_j24 v1 s) := by
  unfold X12_readIsland_j24
  refine s_aload_n (pc := 24) 0 dX12_readIsland_24 rfl ?_
  refine rg_209 hh (pc := 25) dX12_readIsland_25 rfl ?_
  refine s_if_le (tgt := 32) (pc := 28) dX12_readIsland_28 (by decide) (fun _ => ?_) (fun _ => ?_)
  · refine s_aload_n (pc := 32) 0 dX12_readIsland_32 rfl ?_
    refine s_bipush (v := 16) (pc := 33) dX12_readIsland_33 (by decide) ?_
    refine s_iload_n (pc := 35) 1 dX12_readIsland_35 rfl ?_
    refine s_callV (M := MX12_readIsland) (As := [.int 16, .int v1]) (st := []) (Ψ := fun (x : RS) => (none, rH mo h x)) cv_X12_275 (by decide) (pc := 36) dX12_readIsland_36 r_0 (r_lt (k := 0) hh (by decide)) rfl (Nat.le_of_ble_eq_true rfl) (fun x hx => pX12_readNew_ok hh s (16 : Int32) v1 x hx) rfl (fun x2 _ => ?_)
    refine s_aload_n (pc := 39) 0 dX12_readIsland_39 rfl ?_
    refine rg_209 hh (pc := 40) dX12_readIsland_40 rfl ?_
    refine s_if_ne (tgt := 58) (pc := 43) dX12_readIsland_43 (by decide) (fun _ => ?_) (fun _ => ?_)
    · refine s_aload_n (pc := 46) 0 dX12_readIsland_46 rfl ?_
      refine rg_35 hh (pc := 47) dX12_readIsland_47 rfl ?_
      refine s_sipush (v := 1441) (pc := 50) dX12_readIsland_50 (by decide) ?_
      refine s_dup2_11 (pc := 53) dX12_readIsland_53 rfl rfl ?_
      refine rl_4 hh (pc := 54) dX12_readIsland_54 ?_
      refine s_iconst (v := 1) (pc := 55) dX12_readIsland_55 (by decide) ?_
      refine s_iadd (pc := 56) dX12_readIsland_56 ?_
      refine rs_4 hh (pc := 57) dX12_readIsland_57 (fun s3 => ?_)
      exact s_vret (pc := 58) dX12_readIsland_58 rfl (fun _ _ q => q)
    · exact s_vret (pc := 58) dX12_readIsland_58 rfl (fun _ _ q => q)
  · exact s_vret (pc := 31) dX12_readIsland_31 rfl (fun _ _ q => q)
def pX12_readIsland (s : RS) : Option RS :=
  g_in (1441 : Int32) 1800 (
  thn (s.2.2.1 4 (1441 : Int32).toNatClampNeg) fun x1 =>
  if x1 = (4 : Int32) then
    (pX12_fail s (6 : Int32) (s.1 15)).bind fun x4 =>
    X12_readIsland_j24 x1 x4
  else
    X12_readIsland_j24 x1 s)
theorem pX12_readIsland_w (hh : mo + 18 ≤ h.2.1) (s : RS) : aS l 5 MX12_readIsland n0 S0 (oΦ (fun (x : RS) => (none, rH mo h x))) 0 [(0, .ref mo)] [] (rH mo h s) (pX12_readIsland s) := by
  unfold pX12_readIsland
  refine s_aload_n (pc := 0) 0 dX12_readIsland_0 rfl ?_
  refine rg_35 hh (pc := 1) dX12_readIsland_1 rfl ?_
  refine s_sipush (v := 1441) (pc := 4) dX12_readIsland_4 (by decide) ?_
  refine rl_4 hh (pc := 7) dX12_readIsland_7 ?_
  refine s_istore_nT (lv' := fun x1 => [(1, .int x1), (0, .ref mo)]) (pc := 8) dX12_readIsland_8 (by decide) (fun _ => rfl) (fun x1 => ?_)
  refine s_iload_n (pc := 9) 0 dX12_readIsland_9 rfl ?_
  refine s_iconst (v := 4) (pc := 10) dX12_readIsland_10 (by decide) ?_
  refine s_icmp_ne (tgt := 24) (pc := 11) dX12_readIsland_11 (by decide) (fun _ => ?_) (fun _ => ?_)
  · refine s_aload_n (pc := 14) 1 dX12_readIsland_14 rfl ?_
    refine s_bipush (v := 6) (pc := 15) dX12_readIsland_15 (by decide) ?_
    refine s_aload_n (pc := 17) 1 dX12_readIsland_17 rfl ?_
    refine rg_120 hh (pc := 18) dX12_readIsland_18 rfl ?_
    refine s_callV (M := MX12_readIsland) (As := [.int 6, .int (s.1 15)]) (st := []) (Ψ := fun (x : RS) => (none, rH mo h x)) cv_X12_215 (by decide) (pc := 21) dX12_readIsland_21 r_0 (r_lt (k := 0) hh (by decide)) rfl (Nat.le_of_ble_eq_true rfl) (fun x hx => pX12_fail_ok hh s (6 : Int32) (s.1 15) x hx) rfl (fun x4 _ => ?_)
    refine s_sub [1, 0] rfl ?_
    exact X12_readIsland_j24_ok hh x1 x4
  · refine s_sub [1, 0] rfl ?_
    exact X12_readIsland_j24_ok hh x1 s
theorem pX12_readIsland_ok (hh : mo + 18 ≤ h.2.1) (s : RS) : ∀ x, pX12_readIsland s = some x → aMet l 5 yX12_readIsland cX12_readIsland 2 none [.ref mo] (rH mo h s) none (rH mo h x) := fun x hx => a_meth (ini := false) (y := yX12_readIsland) (by decide +kernel) (fun q => by cases q) (fun _ => Nat.le_of_ble_eq_true rfl) (pX12_readIsland_w hh s) x hx _ _ ⟨rfl, rfl⟩
end
section
variable {l : Launch} {n0 S0 : Nat} {mo : Nat} {h : aH}
abbrev MX12_book : aM := (cX12_book, RX12, 3, (some .int), false)
def X12_book_x25 (l : Launch) (n0 S0 : Nat) (mo : Nat) (h : aH) : RS → Option Value → aH → Prop := fun (x : RS) r h' => aEv l 9 MX12_book n0 S0 49 [(0, .ref mo)] [] (rH mo h x) r h'
def X12_book_b25 (v2 : Int32) (s : RS) : Option ((Int32 × RS) ⊕ RS) :=
  if (360 : Int32) ≤ v2 then
    some (.inr s)
  else
    g_in ((1440 : Int32) + v2) 1800 (thn (uA s 4 (upd (s.2.2.1 4) ((1440 : Int32) + v2).toNatClampNeg (0 : Int32))) fun s4 =>
    thn (v2 + 1) fun x5 =>
    some (.inl (x5, s4)))
theorem X12_book_b25_ok (hh : mo + 18 ≤ h.2.1) (v2 : Int32) (s : RS) : aS l 9 MX12_book n0 S0 (a_LΦ (X12_book_x25 l n0 S0 mo h) l 9 MX12_book n0 S0 25 (fun (q : Int32 × RS) => [(0, .ref mo), (2, .int q.1)]) (fun _ => []) (fun (q : Int32 × RS) => rH mo h q.2)) 25 [(0, .ref mo), (2, .int v2)] [] (rH mo h s) (X12_book_b25 v2 s) := by
  unfold X12_book_b25
  refine s_iload_n (pc := 25) 1 dX12_book_25 rfl ?_
  refine s_sipush (v := 360) (pc := 26) dX12_book_26 (by decide) ?_
  refine s_icmp_ge (tgt := 49) (pc := 29) dX12_book_29 (by decide) (fun _ => ?_) (fun _ => ?_)
  · refine s_sub [0] rfl ?_
    exact s_ev (fun _ _ q => q)
  · refine s_aload_n (pc := 32) 0 dX12_book_32 rfl ?_
    refine rg_35 hh (pc := 33) dX12_book_33 rfl ?_
    refine s_sipush (v := 1440) (pc := 36) dX12_book_36 (by decide) ?_
    refine s_iload_n (pc := 39) 1 dX12_book_39 rfl ?_
    refine s_iadd (pc := 40) dX12_book_40 ?_
    refine s_iconst (v := 0) (pc := 41) dX12_book_41 (by decide) ?_
    refine rs_4 hh (pc := 42) dX12_book_42 (fun s4 => ?_)
    refine s_iincT (pc := 43) 1 (lv' := fun x5 => [(2, .int x5), (0, .ref mo)]) dX12_book_43 rfl rfl (by decide) (fun _ => rfl) (fun x5 => ?_)
    refine s_goto (tgt := 25) (pc := 46) dX12_book_46 (by decide) ?_
    refine s_sub [1, 0] rfl ?_
    exact s_ev (fun _ _ q => q)
def X12_book_x49 (l : Launch) (n0 S0 : Nat) (mo : Nat) (h : aH) : RS → Option Value → aH → Prop := fun (x : RS) r h' => aEv l 9 MX12_book n0 S0 106 [(0, .ref mo)] [] (rH mo h x) r h'
def X12_book_j95 (s : RS) : Option (RS ⊕ RS) :=
  (pX12_isClose s).bind fun x10 =>
  (pX12_must s x10).bind fun x11 =>
  some (.inl x11)
theorem X12_book_j95_ok (hh : mo + 18 ≤ h.2.1) (s : RS) : aS l 9 MX12_book n0 S0 (a_LΦ (X12_book_x49 l n0 S0 mo h) l 9 MX12_book n0 S0 49 (fun (q : RS) => [(0, .ref mo)]) (fun _ => []) (fun (q : RS) => rH mo h q)) 95 [(0, .ref mo)] [] (rH mo h s) (X12_book_j95 s) := by
  unfold X12_book_j95
  refine s_aload_n (pc := 95) 0 dX12_book_95 rfl ?_
  refine s_aload_n (pc := 96) 0 dX12_book_96 rfl ?_
  refine s_callV (M := MX12_book) (As := []) (st := [.ref mo]) (Ψ := fun (x : Bool) => (some (.int (b2i x)), rH mo h s)) cv_X12_293 (by decide) (pc := 97) dX12_book_97 r_0 (r_lt (k := 0) hh (by decide)) rfl (Nat.le_of_ble_eq_true rfl) (fun x hx => pX12_isClose_ok hh s x hx) rfl (fun x10 _ => ?_)
  refine s_callV (M := MX12_book) (As := [.int (b2i x10)]) (st := []) (Ψ := fun (x : RS) => (none, rH mo h x)) cv_X12_252 (by decide) (pc := 100) dX12_book_100 r_0 (r_lt (k := 0) hh (by decide)) rfl (Nat.le_of_ble_eq_true rfl) (fun x hx => pX12_must_ok hh s x10 x hx) rfl (fun x11 _ => ?_)
  refine s_goto (tgt := 49) (pc := 103) dX12_book_103 (by decide) ?_
  exact s_ev (fun _ _ q => q)
def X12_book_b49 (s : RS) : Option (RS ⊕ RS) :=
  if (s.1 12) = 0 then
    if (s.1 14) = 0 then
      some (.inr s)
    else
      (pX12_isIslandWord s).bind fun x7 =>
      if x7 = true then
        (pX12_readIsland s).bind fun x13 =>
        X12_book_j95 x13
      else
        (pX12_kindWord s).bind fun x8 =>
        if x8 < 0 then
          (pX12_wrong s).bind fun x9 =>
          X12_book_j95 x9
        else
          (pX12_readChange s).bind fun x12 =>
          X12_book_j95 x12
  else
    some (.inr s)
theorem X12_book_b49_ok (hh : mo + 18 ≤ h.2.1) (s : RS) : aS l 9 MX12_book n0 S0 (a_LΦ (X12_book_x49 l n0 S0 mo h) l 9 MX12_book n0 S0 49 (fun (q : RS) => [(0, .ref mo)]) (fun _ => []) (fun (q : RS) => rH mo h q)) 49 [(0, .ref mo)] [] (rH mo h s) (X12_book_b49 s) := by
  unfold X12_book_b49
  refine s_aload_n (pc := 49) 0 dX12_book_49 rfl ?_
  refine rg_209 hh (pc := 50) dX12_book_50 rfl ?_
  refine s_if_ne (tgt := 106) (pc := 53) dX12_book_53 (by decide) (fun _ => ?_) (fun _ => ?_)
  · refine s_aload_n (pc := 56) 0 dX12_book_56 rfl ?_
    refine rg_126 hh (pc := 57) dX12_book_57 rfl ?_
    refine s_if_eq (tgt := 106) (pc := 60) dX12_book_60 (by decide) (fun _ => ?_) (fun _ => ?_)
    · exact s_ev (fun _ _ q => q)
    · refine s_aload_n (pc := 63) 0 dX12_book_63 rfl ?_
      refine s_callV (M := MX12_book) (As := []) (st := []) (Ψ := fun (x : Bool) => (some (.int (b2i x)), rH mo h s)) cv_X12_156 (by decide) (pc := 64) dX12_book_64 r_0 (r_lt (k := 0) hh (by decide)) rfl (Nat.le_of_ble_eq_true rfl) (fun x hx => pX12_isIslandWord_ok hh s x hx) rfl (fun x7 _ => ?_)
      refine s_if_eqB (tgt := 77) (pc := 67) dX12_book_67 (by decide) (fun _ => ?_) (fun _ => ?_)
      · refine s_aload_n (pc := 70) 0 dX12_book_70 rfl ?_
        refine s_callV (M := MX12_book) (As := []) (st := []) (Ψ := fun (x : RS) => (none, rH mo h x)) cv_X12_287 (by decide) (pc := 71) dX12_book_71 r_0 (r_lt (k := 0) hh (by decide)) rfl (Nat.le_of_ble_eq_true rfl) (fun x hx => pX12_readIsland_ok hh s x hx) rfl (fun x13 _ => ?_)
        refine s_goto (tgt := 95) (pc := 74) dX12_book_74 (by decide) ?_
        exact X12_book_j95_ok hh x13
      · refine s_aload_n (pc := 77) 0 dX12_book_77 rfl ?_
        refine s_callV (M := MX12_book) (As := []) (st := []) (Ψ := fun (x : Int32) => (some (.int x), rH mo h s)) cv_X12_160 (by decide) (pc := 78) dX12_book_78 r_0 (r_lt (k := 0) hh (by decide)) rfl (Nat.le_of_ble_eq_true rfl) (fun x hx => pX12_kindWord_ok hh s x hx) rfl (fun x8 _ => ?_)
        refine s_if_lt (tgt := 91) (pc := 81) dX12_book_81 (by decide) (fun _ => ?_) (fun _ => ?_)
        · refine s_aload_n (pc := 91) 0 dX12_book_91 rfl ?_
          refine s_callV (M := MX12_book) (As := []) (st := []) (Ψ := fun (x : RS) => (none, rH mo h x)) cv_X12_222 (by decide) (pc := 92) dX12_book_92 r_0 (r_lt (k := 0) hh (by decide)) rfl (Nat.le_of_ble_eq_true rfl) (fun x hx => pX12_wrong_ok hh s x hx) rfl (fun x9 _ => ?_)
          exact X12_book_j95_ok hh x9
        · refine s_aload_n (pc := 84) 0 dX12_book_84 rfl ?_
          refine s_callV (M := MX12_book) (As := []) (st := []) (Ψ := fun (x : RS) => (none, rH mo h x)) cv_X12_290 (by decide) (pc := 85) dX12_book_85 r_0 (r_lt (k := 0) hh (by decide)) rfl (Nat.le_of_ble_eq_true rfl) (fun x hx => pX12_readChange_ok hh s x hx) rfl (fun x12 _ => ?_)
          refine s_goto (tgt := 95) (pc := 88) dX12_book_88 (by decide) ?_
          exact X12_book_j95_ok hh x12
  · exact s_ev (fun _ _ q => q)
def X12_book_x117 (l : Launch) (n0 S0 : Nat) (mo : Nat) (h : aH) : RS → Option Value → aH → Prop := fun (x : RS) r h' => aEv l 9 MX12_book n0 S0 146 [(0, .ref mo)] [] (rH mo h x) r h'
def X12_book_b117 (v2 : Int32) (s : RS) : Option ((Int32 × RS) ⊕ RS) :=
  if (360 : Int32) ≤ v2 then
    some (.inr s)
  else
    g_in ((1440 : Int32) + v2) 1800 (
    g_in v2 1800 (thn (uA s 4 (upd (s.2.2.1 4) v2.toNatClampNeg (s.2.2.1 4 ((1440 : Int32) + v2).toNatClampNeg))) fun s16 =>
    thn (v2 + 1) fun x17 =>
    some (.inl (x17, s16))))
theorem X12_book_b117_ok (hh : mo + 18 ≤ h.2.1) (v2 : Int32) (s : RS) : aS l 9 MX12_book n0 S0 (a_LΦ (X12_book_x117 l n0 S0 mo h) l 9 MX12_book n0 S0 117 (fun (q : Int32 × RS) => [(0, .ref mo), (2, .int q.1)]) (fun _ => []) (fun (q : Int32 × RS) => rH mo h q.2)) 117 [(0, .ref mo), (2, .int v2)] [] (rH mo h s) (X12_book_b117 v2 s) := by
  unfold X12_book_b117
  refine s_iload_n (pc := 117) 1 dX12_book_117 rfl ?_
  refine s_sipush (v := 360) (pc := 118) dX12_book_118 (by decide) ?_
  refine s_icmp_ge (tgt := 146) (pc := 121) dX12_book_121 (by decide) (fun _ => ?_) (fun _ => ?_)
  · refine s_sub [0] rfl ?_
    exact s_ev (fun _ _ q => q)
  · refine s_aload_n (pc := 124) 0 dX12_book_124 rfl ?_
    refine rg_35 hh (pc := 125) dX12_book_125 rfl ?_
    refine s_iload_n (pc := 128) 1 dX12_book_128 rfl ?_
    refine s_aload_n (pc := 129) 0 dX12_book_129 rfl ?_
    refine rg_35 hh (pc := 130) dX12_book_130 rfl ?_
    refine s_sipush (v := 1440) (pc := 133) dX12_book_133 (by decide) ?_
    refine s_iload_n (pc := 136) 1 dX12_book_136 rfl ?_
    refine s_iadd (pc := 137) dX12_book_137 ?_
    refine rl_4 hh (pc := 138) dX12_book_138 ?_
    refine rs_4 hh (pc := 139) dX12_book_139 (fun s16 => ?_)
    refine s_iincT (pc := 140) 1 (lv' := fun x17 => [(2, .int x17), (0, .ref mo)]) dX12_book_140 rfl rfl (by decide) (fun _ => rfl) (fun x17 => ?_)
    refine s_goto (tgt := 117) (pc := 143) dX12_book_143 (by decide) ?_
    refine s_sub [1, 0] rfl ?_
    exact s_ev (fun _ _ q => q)
def X12_book_x148 (l : Launch) (n0 S0 : Nat) (mo : Nat) (h : aH) : RS → Option Value → aH → Prop := fun (x : RS) r h' => aEv l 9 MX12_book n0 S0 175 [(0, .ref mo)] [] (rH mo h x) r h'
def X12_book_b148 (v2 : Int32) (s : RS) : Option ((Int32 × RS) ⊕ RS) :=
  if (20 : Int32) ≤ v2 then
    some (.inr s)
  else
    g_in ((80 : Int32) + v2) 100 (
    g_in v2 100 (thn (uB s 5 (vp_updL (s.2.2.2 5) v2.toNatClampNeg (s.2.2.2 5 ((80 : Int32) + v2).toNatClampNeg))) fun s19 =>
    thn (v2 + 1) fun x20 =>
    some (.inl (x20, s19))))
theorem X12_book_b148_ok (hh : mo + 18 ≤ h.2.1) (v2 : Int32) (s : RS) : aS l 9 MX12_book n0 S0 (a_LΦ (X12_book_x148 l n0 S0 mo h) l 9 MX12_book n0 S0 148 (fun (q : Int32 × RS) => [(0, .ref mo), (2, .int q.1)]) (fun _ => []) (fun (q : Int32 × RS) => rH mo h q.2)) 148 [(0, .ref mo), (2, .int v2)] [] (rH mo h s) (X12_book_b148 v2 s) := by
  unfold X12_book_b148
  refine s_iload_n (pc := 148) 1 dX12_book_148 rfl ?_
  refine s_bipush (v := 20) (pc := 149) dX12_book_149 (by decide) ?_
  refine s_icmp_ge (tgt := 175) (pc := 151) dX12_book_151 (by decide) (fun _ => ?_) (fun _ => ?_)
  · refine s_sub [0] rfl ?_
    exact s_ev (fun _ _ q => q)
  · refine s_aload_n (pc := 154) 0 dX12_book_154 rfl ?_
    refine rg_38 hh (pc := 155) dX12_book_155 rfl ?_
    refine s_iload_n (pc := 158) 1 dX12_book_158 rfl ?_
    refine s_aload_n (pc := 159) 0 dX12_book_159 rfl ?_
    refine rg_38 hh (pc := 160) dX12_book_160 rfl ?_
    refine s_bipush (v := 80) (pc := 163) dX12_book_163 (by decide) ?_
    refine s_iload_n (pc := 165) 1 dX12_book_165 rfl ?_
    refine s_iadd (pc := 166) dX12_book_166 ?_
    refine rl_5 hh (pc := 167) dX12_book_167 ?_
    refine rs_5 hh (pc := 168) dX12_book_168 (fun s19 => ?_)
    refine s_iincT (pc := 169) 1 (lv' := fun x20 => [(2, .int x20), (0, .ref mo)]) dX12_book_169 rfl rfl (by decide) (fun _ => rfl) (fun x20 => ?_)
    refine s_goto (tgt := 148) (pc := 172) dX12_book_172 (by decide) ?_
    refine s_sub [1, 0] rfl ?_
    exact s_ev (fun _ _ q => q)
def X12_book_j106 (s : RS) : Option (Int32 × RS) :=
  (pX12_isWell s).bind fun x15 =>
  if x15.1 = true then
    (a_loop (fun (q : Int32 × RS) => X12_book_b117 q.1 q.2) FU ((0 : Int32), x15.2)).bind fun (t18 : RS) =>
      (a_loop (fun (q : Int32 × RS) => X12_book_b148 q.1 q.2) FU ((0 : Int32), t18)).bind fun (t21 : RS) =>
        g_in (0 : Int32) 1800 (
        some ((t21.2.2.1 4 (0 : Int32).toNatClampNeg), t21))
  else
    some ((-1 : Int32), x15.2)
theorem X12_book_j106_ok (hh : mo + 18 ≤ h.2.1) (s : RS) : aS l 9 MX12_book n0 S0 (oΦ (fun (x : Int32 × RS) => (some (.int x.1), rH mo h x.2))) 106 [(0, .ref mo)] [] (rH mo h s) (X12_book_j106 s) := by
  unfold X12_book_j106
  refine s_aload_n (pc := 106) 0 dX12_book_106 rfl ?_
  refine s_callV (M := MX12_book) (As := []) (st := []) (Ψ := fun (x : Bool × RS) => (some (.int (b2i x.1)), rH mo h x.2)) cv_X12_296 (by decide) (pc := 107) dX12_book_107 r_0 (r_lt (k := 0) hh (by decide)) rfl (Nat.le_of_ble_eq_true rfl) (fun x hx => pX12_isWell_ok hh s x hx) rfl (fun x15 _ => ?_)
  refine s_if_neB (tgt := 115) (pc := 110) dX12_book_110 (by decide) (fun _ => ?_) (fun _ => ?_)
  · refine s_iconst (v := 0) (pc := 115) dX12_book_115 (by decide) ?_
    refine s_istore_n (lv' := [(2, .int 0), (0, .ref mo)]) (pc := 116) dX12_book_116 (by decide) rfl ?_
    refine s_bind (Ψ := X12_book_x117 l n0 S0 mo h) ?_ ?_
    · refine s_sub [1, 0] rfl ?_
      exact s_loop (lvf := fun (q : Int32 × RS) => [(0, .ref mo), (2, .int q.1)]) (stf := fun _ => []) (hf := fun (q : Int32 × RS) => rH mo h q.2) (fun q => X12_book_b117_ok hh q.1 q.2) FU ((0 : Int32), x15.2)
    · intro t18 z r h' hz hr
      refine (?_ : aS l 9 MX12_book n0 S0 (oΦ (fun (x : Int32 × RS) => (some (.int x.1), rH mo h x.2))) 146 [(0, .ref mo)] [] (rH mo h t18) _) z hz r h' hr
      refine s_iconst (v := 0) (pc := 146) dX12_book_146 (by decide) ?_
      refine s_istore_n (lv' := [(2, .int 0), (0, .ref mo)]) (pc := 147) dX12_book_147 (by decide) rfl ?_
      refine s_bind (Ψ := X12_book_x148 l n0 S0 mo h) ?_ ?_
      · refine s_sub [1, 0] rfl ?_
        exact s_loop (lvf := fun (q : Int32 × RS) => [(0, .ref mo), (2, .int q.1)]) (stf := fun _ => []) (hf := fun (q : Int32 × RS) => rH mo h q.2) (fun q => X12_book_b148_ok hh q.1 q.2) FU ((0 : Int32), t18)
      · intro t21 z r h' hz hr
        refine (?_ : aS l 9 MX12_book n0 S0 (oΦ (fun (x : Int32 × RS) => (some (.int x.1), rH mo h x.2))) 175 [(0, .ref mo)] [] (rH mo h t21) _) z hz r h' hr
        refine s_aload_n (pc := 175) 0 dX12_book_175 rfl ?_
        refine rg_35 hh (pc := 176) dX12_book_176 rfl ?_
        refine s_iconst (v := 0) (pc := 179) dX12_book_179 (by decide) ?_
        refine rl_4 hh (pc := 180) dX12_book_180 ?_
        exact s_iret (pc := 181) dX12_book_181 rfl (fun _ _ q => q)
  · refine s_iconst (v := (-1)) (pc := 113) dX12_book_113 (by decide) ?_
    exact s_iret (pc := 114) dX12_book_114 rfl (fun _ _ q => q)
def pX12_book (s : RS) (a0 : Int32) : Option (Int32 × RS) :=
  thn (uI s 1 (0 : Int32)) fun s1 =>
  thn (uI s1 0 (0 : Int32)) fun s2 =>
  (pX12_opens s2 a0 (900 : Int32)).bind fun x3 =>
  if x3.1 = true then
    (a_loop (fun (q : Int32 × RS) => X12_book_b25 q.1 q.2) FU ((0 : Int32), x3.2)).bind fun (t6 : RS) =>
      (a_loop (fun (q : RS) => X12_book_b49 q) FU t6).bind fun (t14 : RS) =>
        X12_book_j106 t14
  else
    some ((-1 : Int32), x3.2)
theorem pX12_book_w (hh : mo + 18 ≤ h.2.1) (s : RS) (a0 : Int32) : aS l 9 MX12_book n0 S0 (oΦ (fun (x : Int32 × RS) => (some (.int x.1), rH mo h x.2))) 0 [(0, .ref mo), (1, .int a0)] [] (rH mo h s) (pX12_book s a0) := by
  unfold pX12_book
  refine s_aload_n (pc := 0) 0 dX12_book_0 rfl ?_
  refine s_iconst (v := 0) (pc := 1) dX12_book_1 (by decide) ?_
  refine rp_75 hh (pc := 2) dX12_book_2 rfl (fun s1 => ?_)
  refine s_aload_n (pc := 5) 0 dX12_book_5 rfl ?_
  refine s_iconst (v := 0) (pc := 6) dX12_book_6 (by decide) ?_
  refine rp_78 hh (pc := 7) dX12_book_7 rfl (fun s2 => ?_)
  refine s_aload_n (pc := 10) 0 dX12_book_10 rfl ?_
  refine s_iload_n (pc := 11) 1 dX12_book_11 rfl ?_
  refine s_sipush (v := 900) (pc := 12) dX12_book_12 (by decide) ?_
  refine s_callV (M := MX12_book) (As := [.int a0, .int 900]) (st := []) (Ψ := fun (x : Bool × RS) => (some (.int (b2i x.1)), rH mo h x.2)) cv_X12_284 (by decide) (pc := 15) dX12_book_15 r_0 (r_lt (k := 0) hh (by decide)) rfl (Nat.le_of_ble_eq_true rfl) (fun x hx => pX12_opens_ok hh s2 a0 (900 : Int32) x hx) rfl (fun x3 _ => ?_)
  refine s_if_neB (tgt := 23) (pc := 18) dX12_book_18 (by decide) (fun _ => ?_) (fun _ => ?_)
  · refine s_iconst (v := 0) (pc := 23) dX12_book_23 (by decide) ?_
    refine s_istore_n (lv' := [(2, .int 0), (0, .ref mo), (1, .int a0)]) (pc := 24) dX12_book_24 (by decide) rfl ?_
    refine s_bind (Ψ := X12_book_x25 l n0 S0 mo h) ?_ ?_
    · refine s_sub [1, 0] rfl ?_
      exact s_loop (lvf := fun (q : Int32 × RS) => [(0, .ref mo), (2, .int q.1)]) (stf := fun _ => []) (hf := fun (q : Int32 × RS) => rH mo h q.2) (fun q => X12_book_b25_ok hh q.1 q.2) FU ((0 : Int32), x3.2)
    · intro t6 z r h' hz hr
      refine (?_ : aS l 9 MX12_book n0 S0 (oΦ (fun (x : Int32 × RS) => (some (.int x.1), rH mo h x.2))) 49 [(0, .ref mo)] [] (rH mo h t6) _) z hz r h' hr
      refine s_bind (Ψ := X12_book_x49 l n0 S0 mo h) ?_ ?_
      · exact s_loop (lvf := fun (q : RS) => [(0, .ref mo)]) (stf := fun _ => []) (hf := fun (q : RS) => rH mo h q) (fun q => X12_book_b49_ok hh q) FU t6
      · intro t14 z r h' hz hr
        refine (?_ : aS l 9 MX12_book n0 S0 (oΦ (fun (x : Int32 × RS) => (some (.int x.1), rH mo h x.2))) 106 [(0, .ref mo)] [] (rH mo h t14) _) z hz r h' hr
        exact X12_book_j106_ok hh t14
  · refine s_iconst (v := (-1)) (pc := 21) dX12_book_21 (by decide) ?_
    exact s_iret (pc := 22) dX12_book_22 rfl (fun _ _ q => q)
theorem pX12_book_ok (hh : mo + 18 ≤ h.2.1) (s : RS) (a0 : Int32) : ∀ x, pX12_book s a0 = some x → aMet l 9 yX12_book cX12_book 3 (some .int) [.ref mo, .int a0] (rH mo h s) (some (.int x.1)) (rH mo h x.2) := fun x hx => a_meth (ini := false) (y := yX12_book) (by decide +kernel) (fun q => by cases q) (fun _ => Nat.le_of_ble_eq_true rfl) (pX12_book_w hh s a0) x hx _ _ ⟨rfl, rfl⟩
end
section
variable {l : Launch} {n0 S0 : Nat} {mo : Nat} {h : aH}
abbrev MX12_isChange : aM := (cX12_isChange, RX12, 2, (some .boolean), false)
def pX12_isChange (s : RS) (a0 : Int32) : Option Bool :=
  g_in (0 : Int32) 1800 (
  (pX12_isIn a0.toInt64 (0 : Int64) (((s.2.2.1 4 (0 : Int32).toNatClampNeg) - (1 : Int32)).toInt64)).bind fun x1 =>
  some x1)
theorem pX12_isChange_w (hh : mo + 18 ≤ h.2.1) (s : RS) (a0 : Int32) : aS l 1 MX12_isChange n0 S0 (oΦ (fun (x : Bool) => (some (.int (b2i x)), rH mo h s))) 0 [(0, .ref mo), (1, .int a0)] [] (rH mo h s) (pX12_isChange s a0) := by
  unfold pX12_isChange
  refine s_iload_n (pc := 0) 1 dX12_isChange_0 rfl ?_
  refine s_i2l (pc := 1) dX12_isChange_1 ?_
  refine s_lconst (v := 0) (pc := 2) dX12_isChange_2 (by decide) ?_
  refine s_aload_n (pc := 3) 0 dX12_isChange_3 rfl ?_
  refine rg_35 hh (pc := 4) dX12_isChange_4 rfl ?_
  refine s_iconst (v := 0) (pc := 7) dX12_isChange_7 (by decide) ?_
  refine rl_4 hh (pc := 8) dX12_isChange_8 ?_
  refine s_iconst (v := 1) (pc := 9) dX12_isChange_9 (by decide) ?_
  refine s_isub (pc := 10) dX12_isChange_10 ?_
  refine s_i2l (pc := 11) dX12_isChange_11 ?_
  refine s_callS (M := MX12_isChange) (As := [.long a0.toInt64, .long (0 : Int64), .long ((s.2.2.1 4 (0 : Int32).toNatClampNeg) - (1 : Int32)).toInt64]) (st := []) (Ψ := fun (x : Bool) => (some (.int (b2i x)), rH mo h s)) cs_X12_110 (by decide) (pc := 12) dX12_isChange_12 rfl (Nat.le_of_ble_eq_true rfl) (fun x hx => pX12_isIn_ok a0.toInt64 (0 : Int64) (((s.2.2.1 4 (0 : Int32).toNatClampNeg) - (1 : Int32)).toInt64) x hx) rfl (fun x1 _ => ?_)
  exact s_zretB (b := x1) (pc := 15) dX12_isChange_15 rfl (fun _ _ q => q)
theorem pX12_isChange_ok (hh : mo + 18 ≤ h.2.1) (s : RS) (a0 : Int32) : ∀ x, pX12_isChange s a0 = some x → aMet l 1 yX12_isChange cX12_isChange 2 (some .boolean) [.ref mo, .int a0] (rH mo h s) (some (.int (b2i x))) (rH mo h s) := fun x hx => a_meth (ini := false) (y := yX12_isChange) (by decide +kernel) (fun q => by cases q) (fun _ => Nat.le_of_ble_eq_true rfl) (pX12_isChange_w hh s a0) x hx _ _ ⟨rfl, rfl⟩
end
section
variable {l : Launch} {n0 S0 : Nat} {mo : Nat} {h : aH}
abbrev MX12_isSet : aM := (cX12_isSet, RX12, 2, (some .boolean), false)
def pX12_isSet (s : RS) (a0 : Int32) : Option Bool :=
  g_in (0 : Int32) 1800 (
  (pX12_isIn a0.toInt64 (0 : Int64) ((((1 : Int32) <<< ((s.2.2.1 4 (0 : Int32).toNatClampNeg) &&& 31)) - (1 : Int32)).toInt64)).bind fun x1 =>
  some x1)
theorem pX12_isSet_w (hh : mo + 18 ≤ h.2.1) (s : RS) (a0 : Int32) : aS l 1 MX12_isSet n0 S0 (oΦ (fun (x : Bool) => (some (.int (b2i x)), rH mo h s))) 0 [(0, .ref mo), (1, .int a0)] [] (rH mo h s) (pX12_isSet s a0) := by
  unfold pX12_isSet
  refine s_iload_n (pc := 0) 1 dX12_isSet_0 rfl ?_
  refine s_i2l (pc := 1) dX12_isSet_1 ?_
  refine s_lconst (v := 0) (pc := 2) dX12_isSet_2 (by decide) ?_
  refine s_iconst (v := 1) (pc := 3) dX12_isSet_3 (by decide) ?_
  refine s_aload_n (pc := 4) 0 dX12_isSet_4 rfl ?_
  refine rg_35 hh (pc := 5) dX12_isSet_5 rfl ?_
  refine s_iconst (v := 0) (pc := 8) dX12_isSet_8 (by decide) ?_
  refine rl_4 hh (pc := 9) dX12_isSet_9 ?_
  refine s_ishl (pc := 10) dX12_isSet_10 ?_
  refine s_iconst (v := 1) (pc := 11) dX12_isSet_11 (by decide) ?_
  refine s_isub (pc := 12) dX12_isSet_12 ?_
  refine s_i2l (pc := 13) dX12_isSet_13 ?_
  refine s_callS (M := MX12_isSet) (As := [.long a0.toInt64, .long (0 : Int64), .long (((1 : Int32) <<< ((s.2.2.1 4 (0 : Int32).toNatClampNeg) &&& 31)) - (1 : Int32)).toInt64]) (st := []) (Ψ := fun (x : Bool) => (some (.int (b2i x)), rH mo h s)) cs_X12_110 (by decide) (pc := 14) dX12_isSet_14 rfl (Nat.le_of_ble_eq_true rfl) (fun x hx => pX12_isIn_ok a0.toInt64 (0 : Int64) ((((1 : Int32) <<< ((s.2.2.1 4 (0 : Int32).toNatClampNeg) &&& 31)) - (1 : Int32)).toInt64) x hx) rfl (fun x1 _ => ?_)
  exact s_zretB (b := x1) (pc := 17) dX12_isSet_17 rfl (fun _ _ q => q)
theorem pX12_isSet_ok (hh : mo + 18 ≤ h.2.1) (s : RS) (a0 : Int32) : ∀ x, pX12_isSet s a0 = some x → aMet l 1 yX12_isSet cX12_isSet 2 (some .boolean) [.ref mo, .int a0] (rH mo h s) (some (.int (b2i x))) (rH mo h s) := fun x hx => a_meth (ini := false) (y := yX12_isSet) (by decide +kernel) (fun q => by cases q) (fun _ => Nat.le_of_ble_eq_true rfl) (pX12_isSet_w hh s a0) x hx _ _ ⟨rfl, rfl⟩
end
section
variable {l : Launch} {n0 S0 : Nat} {mo : Nat} {h : aH}
abbrev MX12_isIsland : aM := (cX12_isIsland, RX12, 2, (some .boolean), false)
def pX12_isIsland (s : RS) (a0 : Int32) : Option Bool :=
  g_in (1 : Int32) 1800 (
  (pX12_isIn a0.toInt64 (0 : Int64) (((s.2.2.1 4 (1 : Int32).toNatClampNeg) - (1 : Int32)).toInt64)).bind fun x1 =>
  some x1)
theorem pX12_isIsland_w (hh : mo + 18 ≤ h.2.1) (s : RS) (a0 : Int32) : aS l 1 MX12_isIsland n0 S0 (oΦ (fun (x : Bool) => (some (.int (b2i x)), rH mo h s))) 0 [(0, .ref mo), (1, .int a0)] [] (rH mo h s) (pX12_isIsland s a0) := by
  unfold pX12_isIsland
  refine s_iload_n (pc := 0) 1 dX12_isIsland_0 rfl ?_
  refine s_i2l (pc := 1) dX12_isIsland_1 ?_
  refine s_lconst (v := 0) (pc := 2) dX12_isIsland_2 (by decide) ?_
  refine s_aload_n (pc := 3) 0 dX12_isIsland_3 rfl ?_
  refine rg_35 hh (pc := 4) dX12_isIsland_4 rfl ?_
  refine s_iconst (v := 1) (pc := 7) dX12_isIsland_7 (by decide) ?_
  refine rl_4 hh (pc := 8) dX12_isIsland_8 ?_
  refine s_iconst (v := 1) (pc := 9) dX12_isIsland_9 (by decide) ?_
  refine s_isub (pc := 10) dX12_isIsland_10 ?_
  refine s_i2l (pc := 11) dX12_isIsland_11 ?_
  refine s_callS (M := MX12_isIsland) (As := [.long a0.toInt64, .long (0 : Int64), .long ((s.2.2.1 4 (1 : Int32).toNatClampNeg) - (1 : Int32)).toInt64]) (st := []) (Ψ := fun (x : Bool) => (some (.int (b2i x)), rH mo h s)) cs_X12_110 (by decide) (pc := 12) dX12_isIsland_12 rfl (Nat.le_of_ble_eq_true rfl) (fun x hx => pX12_isIn_ok a0.toInt64 (0 : Int64) (((s.2.2.1 4 (1 : Int32).toNatClampNeg) - (1 : Int32)).toInt64) x hx) rfl (fun x1 _ => ?_)
  exact s_zretB (b := x1) (pc := 15) dX12_isIsland_15 rfl (fun _ _ q => q)
theorem pX12_isIsland_ok (hh : mo + 18 ≤ h.2.1) (s : RS) (a0 : Int32) : ∀ x, pX12_isIsland s a0 = some x → aMet l 1 yX12_isIsland cX12_isIsland 2 (some .boolean) [.ref mo, .int a0] (rH mo h s) (some (.int (b2i x))) (rH mo h s) := fun x hx => a_meth (ini := false) (y := yX12_isIsland) (by decide +kernel) (fun q => by cases q) (fun _ => Nat.le_of_ble_eq_true rfl) (pX12_isIsland_w hh s a0) x hx _ _ ⟨rfl, rfl⟩
end
section
variable {l : Launch} {n0 S0 : Nat} {mo : Nat} {h : aH}
abbrev MX12_hasIn : aM := (cX12_hasIn, RX12, 2, (some .boolean), false)
def pX12_hasIn (a0 : Int32) (a1 : Int32) : Option Bool :=
  if ((a0 >>> (a1 &&& 31)) &&& (1 : Int32)) = (1 : Int32) then
    some true
  else
    some false
theorem pX12_hasIn_w (a0 : Int32) (a1 : Int32) : aS l 0 MX12_hasIn n0 S0 (oΦ (fun (x : Bool) => (some (.int (b2i x)), h))) 0 [(0, .int a0), (1, .int a1)] [] h (pX12_hasIn a0 a1) := by
  unfold pX12_hasIn
  refine s_iload_n (pc := 0) 0 dX12_hasIn_0 rfl ?_
  refine s_iload_n (pc := 1) 1 dX12_hasIn_1 rfl ?_
  refine s_ishr (pc := 2) dX12_hasIn_2 ?_
  refine s_iconst (v := 1) (pc := 3) dX12_hasIn_3 (by decide) ?_
  refine s_iand (pc := 4) dX12_hasIn_4 ?_
  refine s_iconst (v := 1) (pc := 5) dX12_hasIn_5 (by decide) ?_
  refine s_icmp_ne (tgt := 13) (pc := 6) dX12_hasIn_6 (by decide) (fun _ => ?_) (fun _ => ?_)
  · refine s_iconst (v := 1) (pc := 9) dX12_hasIn_9 (by decide) ?_
    refine s_goto (tgt := 14) (pc := 10) dX12_hasIn_10 (by decide) ?_
    exact s_zretB (b := true) (pc := 14) dX12_hasIn_14 rfl (fun _ _ q => q)
  · refine s_iconst (v := 0) (pc := 13) dX12_hasIn_13 (by decide) ?_
    exact s_zretB (b := false) (pc := 14) dX12_hasIn_14 rfl (fun _ _ q => q)
theorem pX12_hasIn_ok (a0 : Int32) (a1 : Int32) : ∀ x, pX12_hasIn a0 a1 = some x → aMet l 0 yX12_hasIn cX12_hasIn 2 (some .boolean) [.int a0, .int a1] h (some (.int (b2i x))) h := fun x hx => a_meth (ini := false) (y := yX12_hasIn) (by decide +kernel) (fun q => by cases q) (fun _ => Nat.le_of_ble_eq_true rfl) (pX12_hasIn_w a0 a1) x hx _ _ ⟨rfl, rfl⟩
end
section
variable {l : Launch} {n0 S0 : Nat} {mo : Nat} {h : aH}
abbrev MX12_bits : aM := (cX12_bits, RX12, 3, (some .int), false)
def X12_bits_x4 (l : Launch) (n0 S0 : Nat) (h : aH) (v0 : Int32) : Int32 → Option Value → aH → Prop := fun (x : Int32) r h' => aEv l 0 MX12_bits n0 S0 24 [(1, .int x)] [] h r h'
def X12_bits_b4 (v0 : Int32) (v1 : Int32) (v2 : Int32) : Option ((Int32 × Int32) ⊕ Int32) :=
  if (16 : Int32) ≤ v2 then
    some (.inr v1)
  else
    thn (v1 + ((v0 >>> (v2 &&& 31)) &&& (1 : Int32))) fun x1 =>
    thn (v2 + 1) fun x2 =>
    some (.inl (x1, x2))
theorem X12_bits_b4_ok (v0 : Int32) (v1 : Int32) (v2 : Int32) : aS l 0 MX12_bits n0 S0 (a_LΦ (X12_bits_x4 l n0 S0 h v0) l 0 MX12_bits n0 S0 4 (fun (q : Int32 × Int32) => [(0, .int v0), (1, .int q.1), (2, .int q.2)]) (fun _ => []) (fun (q : Int32 × Int32) => h)) 4 [(0, .int v0), (1, .int v1), (2, .int v2)] [] h (X12_bits_b4 v0 v1 v2) := by
  unfold X12_bits_b4
  refine s_iload_n (pc := 4) 2 dX12_bits_4 rfl ?_
  refine s_bipush (v := 16) (pc := 5) dX12_bits_5 (by decide) ?_
  refine s_icmp_ge (tgt := 24) (pc := 7) dX12_bits_7 (by decide) (fun _ => ?_) (fun _ => ?_)
  · refine s_sub [1] rfl ?_
    exact s_ev (fun _ _ q => q)
  · refine s_iload_n (pc := 10) 1 dX12_bits_10 rfl ?_
    refine s_iload_n (pc := 11) 0 dX12_bits_11 rfl ?_
    refine s_iload_n (pc := 12) 2 dX12_bits_12 rfl ?_
    refine s_ishr (pc := 13) dX12_bits_13 ?_
    refine s_iconst (v := 1) (pc := 14) dX12_bits_14 (by decide) ?_
    refine s_iand (pc := 15) dX12_bits_15 ?_
    refine s_iadd (pc := 16) dX12_bits_16 ?_
    refine s_istore_nT (lv' := fun x1 => [(1, .int x1), (0, .int v0), (2, .int v2)]) (pc := 17) dX12_bits_17 (by decide) (fun _ => rfl) (fun x1 => ?_)
    refine s_iincT (pc := 18) 2 (lv' := fun x2 => [(2, .int x2), (1, .int x1), (0, .int v0)]) dX12_bits_18 rfl rfl (by decide) (fun _ => rfl) (fun x2 => ?_)
    refine s_goto (tgt := 4) (pc := 21) dX12_bits_21 (by decide) ?_
    refine s_sub [2, 1, 0] rfl ?_
    exact s_ev (fun _ _ q => q)
def pX12_bits (a0 : Int32) : Option Int32 :=
  (a_loop (fun (q : Int32 × Int32) => X12_bits_b4 a0 q.1 q.2) FU ((0 : Int32), (0 : Int32))).bind fun (t3 : Int32) =>
    some t3
theorem pX12_bits_w (a0 : Int32) : aS l 0 MX12_bits n0 S0 (oΦ (fun (x : Int32) => (some (.int x), h))) 0 [(0, .int a0)] [] h (pX12_bits a0) := by
  unfold pX12_bits
  refine s_iconst (v := 0) (pc := 0) dX12_bits_0 (by decide) ?_
  refine s_istore_n (lv' := [(1, .int 0), (0, .int a0)]) (pc := 1) dX12_bits_1 (by decide) rfl ?_
  refine s_iconst (v := 0) (pc := 2) dX12_bits_2 (by decide) ?_
  refine s_istore_n (lv' := [(2, .int 0), (1, .int 0), (0, .int a0)]) (pc := 3) dX12_bits_3 (by decide) rfl ?_
  refine s_bind (Ψ := X12_bits_x4 l n0 S0 h a0) ?_ ?_
  · refine s_sub [2, 1, 0] rfl ?_
    exact s_loop (lvf := fun (q : Int32 × Int32) => [(0, .int a0), (1, .int q.1), (2, .int q.2)]) (stf := fun _ => []) (hf := fun (q : Int32 × Int32) => h) (fun q => X12_bits_b4_ok a0 q.1 q.2) FU ((0 : Int32), (0 : Int32))
  · intro t3 z r h' hz hr
    refine (?_ : aS l 0 MX12_bits n0 S0 (oΦ (fun (x : Int32) => (some (.int x), h))) 24 [(1, .int t3)] [] h _) z hz r h' hr
    refine s_iload_n (pc := 24) 0 dX12_bits_24 rfl ?_
    exact s_iret (pc := 25) dX12_bits_25 rfl (fun _ _ q => q)
theorem pX12_bits_ok (a0 : Int32) : ∀ x, pX12_bits a0 = some x → aMet l 0 yX12_bits cX12_bits 3 (some .int) [.int a0] h (some (.int x)) h := fun x hx => a_meth (ini := false) (y := yX12_bits) (by decide +kernel) (fun q => by cases q) (fun _ => Nat.le_of_ble_eq_true rfl) (pX12_bits_w a0) x hx _ _ ⟨rfl, rfl⟩
end
section
variable {l : Launch} {n0 S0 : Nat} {mo : Nat} {h : aH}
abbrev MX12_many : aM := (cX12_many, RX12, 5, (some .int), false)
def X12_many_x44 (l : Launch) (n0 S0 : Nat) (mo : Nat) (h : aH) (v1 : Int32) (s : RS) : Int32 → Option Value → aH → Prop := fun (x : Int32) r h' => aEv l 3 MX12_many n0 S0 121 [(2, .int x)] [] (rH mo h s) r h'
def X12_many_x79 (l : Launch) (n0 S0 : Nat) (mo : Nat) (h : aH) (v1 : Int32) (v3 : Int32) (s : RS) : Int32 → Option Value → aH → Prop := fun (x : Int32) r h' => aEv l 3 MX12_many n0 S0 115 [(0, .ref mo), (1, .int v1), (2, .int x), (3, .int v3)] [] (rH mo h s) r h'
def X12_many_j107 (v1 : Int32) (v3 : Int32) (v4 : Int32) (k0 : Int32) (k1 : Bool) (s : RS) : Option ((Int32 × Int32) ⊕ Int32) :=
  thn (k0 + (b2i k1)) fun x5 =>
  thn (v4 + 1) fun x6 =>
  some (.inl (x5, x6))
theorem X12_many_j107_ok (hh : mo + 18 ≤ h.2.1) (v1 : Int32) (v3 : Int32) (v4 : Int32) (k0 : Int32) (k1 : Bool) (s : RS) : aS l 3 MX12_many n0 S0 (a_LΦ (X12_many_x79 l n0 S0 mo h v1 v3 s) l 3 MX12_many n0 S0 79 (fun (q : Int32 × Int32) => [(0, .ref mo), (1, .int v1), (2, .int q.1), (3, .int v3), (4, .int q.2)]) (fun _ => []) (fun (q : Int32 × Int32) => rH mo h s)) 107 [(0, .ref mo), (1, .int v1), (3, .int v3), (4, .int v4)] [.int (b2i k1), .int k0] (rH mo h s) (X12_many_j107 v1 v3 v4 k0 k1 s) := by
  unfold X12_many_j107
  refine s_iadd (pc := 107) dX12_many_107 ?_
  refine s_istore_nT (lv' := fun x5 => [(2, .int x5), (0, .ref mo), (1, .int v1), (3, .int v3), (4, .int v4)]) (pc := 108) dX12_many_108 (by decide) (fun _ => rfl) (fun x5 => ?_)
  refine s_iincT (pc := 109) 4 (lv' := fun x6 => [(4, .int x6), (2, .int x5), (0, .ref mo), (1, .int v1), (3, .int v3)]) dX12_many_109 rfl rfl (by decide) (fun _ => rfl) (fun x6 => ?_)
  refine s_goto (tgt := 79) (pc := 112) dX12_many_112 (by decide) ?_
  refine s_sub [2, 3, 1, 4, 0] rfl ?_
  exact s_ev (fun _ _ q => q)
def X12_many_j106 (v1 : Int32) (v3 : Int32) (v4 : Int32) (k0 : Int32) (s : RS) : Option ((Int32 × Int32) ⊕ Int32) :=
  X12_many_j107 v1 v3 v4 k0 false s
theorem X12_many_j106_ok (hh : mo + 18 ≤ h.2.1) (v1 : Int32) (v3 : Int32) (v4 : Int32) (k0 : Int32) (s : RS) : aS l 3 MX12_many n0 S0 (a_LΦ (X12_many_x79 l n0 S0 mo h v1 v3 s) l 3 MX12_many n0 S0 79 (fun (q : Int32 × Int32) => [(0, .ref mo), (1, .int v1), (2, .int q.1), (3, .int v3), (4, .int q.2)]) (fun _ => []) (fun (q : Int32 × Int32) => rH mo h s)) 106 [(0, .ref mo), (1, .int v1), (3, .int v3), (4, .int v4)] [.int k0] (rH mo h s) (X12_many_j106 v1 v3 v4 k0 s) := by
  unfold X12_many_j106
  refine s_iconst (v := 0) (pc := 106) dX12_many_106 (by decide) ?_
  exact X12_many_j107_ok hh v1 v3 v4 k0 false s
def X12_many_b79 (v1 : Int32) (v3 : Int32) (v2 : Int32) (v4 : Int32) (s : RS) : Option ((Int32 × Int32) ⊕ Int32) :=
  if v3 ≤ v4 then
    some (.inr v2)
  else
    if v1 = (3 : Int32) then
      (pX12_wouldQuarrel s (0 : Int32) v3 v4).bind fun x7 =>
      if x7 = true then
        X12_many_j107 v1 v3 v4 v2 true s
      else
        X12_many_j106 v1 v3 v4 v2 s
    else
      X12_many_j106 v1 v3 v4 v2 s
theorem X12_many_b79_ok (hh : mo + 18 ≤ h.2.1) (v1 : Int32) (v3 : Int32) (v2 : Int32) (v4 : Int32) (s : RS) : aS l 3 MX12_many n0 S0 (a_LΦ (X12_many_x79 l n0 S0 mo h v1 v3 s) l 3 MX12_many n0 S0 79 (fun (q : Int32 × Int32) => [(0, .ref mo), (1, .int v1), (2, .int q.1), (3, .int v3), (4, .int q.2)]) (fun _ => []) (fun (q : Int32 × Int32) => rH mo h s)) 79 [(0, .ref mo), (1, .int v1), (2, .int v2), (3, .int v3), (4, .int v4)] [] (rH mo h s) (X12_many_b79 v1 v3 v2 v4 s) := by
  unfold X12_many_b79
  refine s_iload (pc := 79) 4 dX12_many_79 rfl ?_
  refine s_iload_n (pc := 81) 3 dX12_many_81 rfl ?_
  refine s_icmp_ge (tgt := 115) (pc := 82) dX12_many_82 (by decide) (fun _ => ?_) (fun _ => ?_)
  · refine s_sub [0, 1, 2, 3] rfl ?_
    exact s_ev (fun _ _ q => q)
  · refine s_iload_n (pc := 85) 2 dX12_many_85 rfl ?_
    refine s_iload_n (pc := 86) 1 dX12_many_86 rfl ?_
    refine s_iconst (v := 3) (pc := 87) dX12_many_87 (by decide) ?_
    refine s_icmp_ne (tgt := 106) (pc := 88) dX12_many_88 (by decide) (fun _ => ?_) (fun _ => ?_)
    · refine s_aload_n (pc := 91) 0 dX12_many_91 rfl ?_
      refine s_iconst (v := 0) (pc := 92) dX12_many_92 (by decide) ?_
      refine s_iload_n (pc := 93) 3 dX12_many_93 rfl ?_
      refine s_iload (pc := 94) 4 dX12_many_94 rfl ?_
      refine s_callV (M := MX12_many) (As := [.int 0, .int v3, .int v4]) (st := [.int v2]) (Ψ := fun (x : Bool) => (some (.int (b2i x)), rH mo h s)) cv_X12_262 (by decide) (pc := 96) dX12_many_96 r_0 (r_lt (k := 0) hh (by decide)) rfl (Nat.le_of_ble_eq_true rfl) (fun x hx => pX12_wouldQuarrel_ok hh s (0 : Int32) v3 v4 x hx) rfl (fun x7 _ => ?_)
      refine s_if_eqB (tgt := 106) (pc := 99) dX12_many_99 (by decide) (fun _ => ?_) (fun _ => ?_)
      · refine s_iconst (v := 1) (pc := 102) dX12_many_102 (by decide) ?_
        refine s_goto (tgt := 107) (pc := 103) dX12_many_103 (by decide) ?_
        refine s_sub [0, 1, 3, 4] rfl ?_
        exact X12_many_j107_ok hh v1 v3 v4 v2 true s
      · refine s_sub [0, 1, 3, 4] rfl ?_
        exact X12_many_j106_ok hh v1 v3 v4 v2 s
    · refine s_sub [0, 1, 3, 4] rfl ?_
      exact X12_many_j106_ok hh v1 v3 v4 v2 s
def X12_many_j74 (v1 : Int32) (v3 : Int32) (k0 : Int32) (k1 : Bool) (s : RS) : Option ((Int32 × Int32) ⊕ Int32) :=
  thn (k0 + (b2i k1)) fun x4 =>
  (a_loop (fun (q : Int32 × Int32) => X12_many_b79 v1 v3 q.1 q.2 s) FU (x4, (0 : Int32))).bind fun (t8 : Int32) =>
    thn (v3 + 1) fun x9 =>
    some (.inl (t8, x9))
theorem X12_many_j74_ok (hh : mo + 18 ≤ h.2.1) (v1 : Int32) (v3 : Int32) (k0 : Int32) (k1 : Bool) (s : RS) : aS l 3 MX12_many n0 S0 (a_LΦ (X12_many_x44 l n0 S0 mo h v1 s) l 3 MX12_many n0 S0 44 (fun (q : Int32 × Int32) => [(0, .ref mo), (1, .int v1), (2, .int q.1), (3, .int q.2)]) (fun _ => []) (fun (q : Int32 × Int32) => rH mo h s)) 74 [(0, .ref mo), (1, .int v1), (3, .int v3)] [.int (b2i k1), .int k0] (rH mo h s) (X12_many_j74 v1 v3 k0 k1 s) := by
  unfold X12_many_j74
  refine s_iadd (pc := 74) dX12_many_74 ?_
  refine s_istore_nT (lv' := fun x4 => [(2, .int x4), (0, .ref mo), (1, .int v1), (3, .int v3)]) (pc := 75) dX12_many_75 (by decide) (fun _ => rfl) (fun x4 => ?_)
  refine s_iconst (v := 0) (pc := 76) dX12_many_76 (by decide) ?_
  refine s_istore (lv' := [(4, .int 0), (2, .int x4), (0, .ref mo), (1, .int v1), (3, .int v3)]) (pc := 77) dX12_many_77 (by decide) rfl ?_
  refine s_bind (Ψ := X12_many_x79 l n0 S0 mo h v1 v3 s) ?_ ?_
  · refine s_sub [2, 3, 1, 4, 0] rfl ?_
    exact s_loop (lvf := fun (q : Int32 × Int32) => [(0, .ref mo), (1, .int v1), (2, .int q.1), (3, .int v3), (4, .int q.2)]) (stf := fun _ => []) (hf := fun (q : Int32 × Int32) => rH mo h s) (fun q => X12_many_b79_ok hh v1 v3 q.1 q.2 s) FU (x4, (0 : Int32))
  · intro t8 z r h' hz hr
    refine (?_ : aS l 3 MX12_many n0 S0 (a_LΦ (X12_many_x44 l n0 S0 mo h v1 s) l 3 MX12_many n0 S0 44 (fun (q : Int32 × Int32) => [(0, .ref mo), (1, .int v1), (2, .int q.1), (3, .int q.2)]) (fun _ => []) (fun (q : Int32 × Int32) => rH mo h s)) 115 [(0, .ref mo), (1, .int v1), (2, .int t8), (3, .int v3)] [] (rH mo h s) _) z hz r h' hr
    refine s_iincT (pc := 115) 3 (lv' := fun x9 => [(3, .int x9), (0, .ref mo), (1, .int v1), (2, .int t8)]) dX12_many_115 rfl rfl (by decide) (fun _ => rfl) (fun x9 => ?_)
    refine s_goto (tgt := 44) (pc := 118) dX12_many_118 (by decide) ?_
    refine s_sub [1, 2, 3, 0] rfl ?_
    exact s_ev (fun _ _ q => q)
def X12_many_j73 (v1 : Int32) (v3 : Int32) (k0 : Int32) (s : RS) : Option ((Int32 × Int32) ⊕ Int32) :=
  X12_many_j74 v1 v3 k0 false s
theorem X12_many_j73_ok (hh : mo + 18 ≤ h.2.1) (v1 : Int32) (v3 : Int32) (k0 : Int32) (s : RS) : aS l 3 MX12_many n0 S0 (a_LΦ (X12_many_x44 l n0 S0 mo h v1 s) l 3 MX12_many n0 S0 44 (fun (q : Int32 × Int32) => [(0, .ref mo), (1, .int v1), (2, .int q.1), (3, .int q.2)]) (fun _ => []) (fun (q : Int32 × Int32) => rH mo h s)) 73 [(0, .ref mo), (1, .int v1), (3, .int v3)] [.int k0] (rH mo h s) (X12_many_j73 v1 v3 k0 s) := by
  unfold X12_many_j73
  refine s_iconst (v := 0) (pc := 73) dX12_many_73 (by decide) ?_
  exact X12_many_j74_ok hh v1 v3 k0 false s
def X12_many_b44 (v1 : Int32) (v2 : Int32) (v3 : Int32) (s : RS) : Option ((Int32 × Int32) ⊕ Int32) :=
  g_in (0 : Int32) 1800 (
  if (s.2.2.1 4 (0 : Int32).toNatClampNeg) ≤ v3 then
    some (.inr v2)
  else
    if v1 = (2 : Int32) then
      (pX12_kind s (0 : Int32) v3).bind fun x10 =>
      if x10 = 0 then
        X12_many_j74 v1 v3 v2 true s
      else
        X12_many_j73 v1 v3 v2 s
    else
      X12_many_j73 v1 v3 v2 s)
theorem X12_many_b44_ok (hh : mo + 18 ≤ h.2.1) (v1 : Int32) (v2 : Int32) (v3 : Int32) (s : RS) : aS l 3 MX12_many n0 S0 (a_LΦ (X12_many_x44 l n0 S0 mo h v1 s) l 3 MX12_many n0 S0 44 (fun (q : Int32 × Int32) => [(0, .ref mo), (1, .int v1), (2, .int q.1), (3, .int q.2)]) (fun _ => []) (fun (q : Int32 × Int32) => rH mo h s)) 44 [(0, .ref mo), (1, .int v1), (2, .int v2), (3, .int v3)] [] (rH mo h s) (X12_many_b44 v1 v2 v3 s) := by
  unfold X12_many_b44
  refine s_iload_n (pc := 44) 3 dX12_many_44 rfl ?_
  refine s_aload_n (pc := 45) 0 dX12_many_45 rfl ?_
  refine rg_35 hh (pc := 46) dX12_many_46 rfl ?_
  refine s_iconst (v := 0) (pc := 49) dX12_many_49 (by decide) ?_
  refine rl_4 hh (pc := 50) dX12_many_50 ?_
  refine s_icmp_ge (tgt := 121) (pc := 51) dX12_many_51 (by decide) (fun _ => ?_) (fun _ => ?_)
  · refine s_sub [2] rfl ?_
    exact s_ev (fun _ _ q => q)
  · refine s_iload_n (pc := 54) 2 dX12_many_54 rfl ?_
    refine s_iload_n (pc := 55) 1 dX12_many_55 rfl ?_
    refine s_iconst (v := 2) (pc := 56) dX12_many_56 (by decide) ?_
    refine s_icmp_ne (tgt := 73) (pc := 57) dX12_many_57 (by decide) (fun _ => ?_) (fun _ => ?_)
    · refine s_aload_n (pc := 60) 0 dX12_many_60 rfl ?_
      refine s_iconst (v := 0) (pc := 61) dX12_many_61 (by decide) ?_
      refine s_iload_n (pc := 62) 3 dX12_many_62 rfl ?_
      refine s_callV (M := MX12_many) (As := [.int 0, .int v3]) (st := [.int v2]) (Ψ := fun (x : Int32) => (some (.int x), rH mo h s)) cv_X12_239 (by decide) (pc := 63) dX12_many_63 r_0 (r_lt (k := 0) hh (by decide)) rfl (Nat.le_of_ble_eq_true rfl) (fun x hx => pX12_kind_ok hh s (0 : Int32) v3 x hx) rfl (fun x10 _ => ?_)
      refine s_if_ne (tgt := 73) (pc := 66) dX12_many_66 (by decide) (fun _ => ?_) (fun _ => ?_)
      · refine s_iconst (v := 1) (pc := 69) dX12_many_69 (by decide) ?_
        refine s_goto (tgt := 74) (pc := 70) dX12_many_70 (by decide) ?_
        refine s_sub [0, 1, 3] rfl ?_
        exact X12_many_j74_ok hh v1 v3 v2 true s
      · refine s_sub [0, 1, 3] rfl ?_
        exact X12_many_j73_ok hh v1 v3 v2 s
    · refine s_sub [0, 1, 3] rfl ?_
      exact X12_many_j73_ok hh v1 v3 v2 s
def pX12_many (s : RS) (a0 : Int32) : Option (Int32 × RS) :=
  thn (uI s 1 (0 : Int32)) fun s1 =>
  thn (uI s1 0 (0 : Int32)) fun s2 =>
  (pX12_isIn a0.toInt64 (0 : Int64) (3 : Int64)).bind fun x3 =>
  if x3 = true then
    if (2 : Int32) ≤ a0 then
      (a_loop (fun (q : Int32 × Int32) => X12_many_b44 a0 q.1 q.2 s2) FU ((0 : Int32), (0 : Int32))).bind fun (t11 : Int32) =>
        some (t11, s2)
    else
      g_in a0 1800 (
      some ((s2.2.2.1 4 a0.toNatClampNeg), s2))
  else
    (pX12_refuse s2 (5 : Int32)).bind fun x12 =>
    some (x12.1, x12.2)
theorem pX12_many_w (hh : mo + 18 ≤ h.2.1) (s : RS) (a0 : Int32) : aS l 3 MX12_many n0 S0 (oΦ (fun (x : Int32 × RS) => (some (.int x.1), rH mo h x.2))) 0 [(0, .ref mo), (1, .int a0)] [] (rH mo h s) (pX12_many s a0) := by
  unfold pX12_many
  refine s_aload_n (pc := 0) 0 dX12_many_0 rfl ?_
  refine s_iconst (v := 0) (pc := 1) dX12_many_1 (by decide) ?_
  refine rp_75 hh (pc := 2) dX12_many_2 rfl (fun s1 => ?_)
  refine s_aload_n (pc := 5) 0 dX12_many_5 rfl ?_
  refine s_iconst (v := 0) (pc := 6) dX12_many_6 (by decide) ?_
  refine rp_78 hh (pc := 7) dX12_many_7 rfl (fun s2 => ?_)
  refine s_iload_n (pc := 10) 1 dX12_many_10 rfl ?_
  refine s_i2l (pc := 11) dX12_many_11 ?_
  refine s_lconst (v := 0) (pc := 12) dX12_many_12 (by decide) ?_
  refine s_ldc2 (v := 3) (pc := 13) dX12_many_13 wk_X12_108 ?_
  refine s_callS (M := MX12_many) (As := [.long a0.toInt64, .long (0 : Int64), .long (3 : Int64)]) (st := []) (Ψ := fun (x : Bool) => (some (.int (b2i x)), rH mo h s2)) cs_X12_110 (by decide) (pc := 16) dX12_many_16 rfl (Nat.le_of_ble_eq_true rfl) (fun x hx => pX12_isIn_ok a0.toInt64 (0 : Int64) (3 : Int64) x hx) rfl (fun x3 _ => ?_)
  refine s_if_neB (tgt := 28) (pc := 19) dX12_many_19 (by decide) (fun _ => ?_) (fun _ => ?_)
  · refine s_iload_n (pc := 28) 1 dX12_many_28 rfl ?_
    refine s_iconst (v := 2) (pc := 29) dX12_many_29 (by decide) ?_
    refine s_icmp_ge (tgt := 40) (pc := 30) dX12_many_30 (by decide) (fun _ => ?_) (fun _ => ?_)
    · refine s_iconst (v := 0) (pc := 40) dX12_many_40 (by decide) ?_
      refine s_istore_n (lv' := [(2, .int 0), (0, .ref mo), (1, .int a0)]) (pc := 41) dX12_many_41 (by decide) rfl ?_
      refine s_iconst (v := 0) (pc := 42) dX12_many_42 (by decide) ?_
      refine s_istore_n (lv' := [(3, .int 0), (2, .int 0), (0, .ref mo), (1, .int a0)]) (pc := 43) dX12_many_43 (by decide) rfl ?_
      refine s_bind (Ψ := X12_many_x44 l n0 S0 mo h a0 s2) ?_ ?_
      · refine s_sub [2, 3, 1, 0] rfl ?_
        exact s_loop (lvf := fun (q : Int32 × Int32) => [(0, .ref mo), (1, .int a0), (2, .int q.1), (3, .int q.2)]) (stf := fun _ => []) (hf := fun (q : Int32 × Int32) => rH mo h s2) (fun q => X12_many_b44_ok hh a0 q.1 q.2 s2) FU ((0 : Int32), (0 : Int32))
      · intro t11 z r h' hz hr
        refine (?_ : aS l 3 MX12_many n0 S0 (oΦ (fun (x : Int32 × RS) => (some (.int x.1), rH mo h x.2))) 121 [(2, .int t11)] [] (rH mo h s2) _) z hz r h' hr
        refine s_iload_n (pc := 121) 0 dX12_many_121 rfl ?_
        exact s_iret (pc := 122) dX12_many_122 rfl (fun _ _ q => q)
    · refine s_aload_n (pc := 33) 0 dX12_many_33 rfl ?_
      refine rg_35 hh (pc := 34) dX12_many_34 rfl ?_
      refine s_iload_n (pc := 37) 1 dX12_many_37 rfl ?_
      refine rl_4 hh (pc := 38) dX12_many_38 ?_
      exact s_iret (pc := 39) dX12_many_39 rfl (fun _ _ q => q)
  · refine s_aload_n (pc := 22) 0 dX12_many_22 rfl ?_
    refine s_iconst (v := 5) (pc := 23) dX12_many_23 (by decide) ?_
    refine s_callV (M := MX12_many) (As := [.int 5]) (st := []) (Ψ := fun (x : Int32 × RS) => (some (.int x.1), rH mo h x.2)) cv_X12_299 (by decide) (pc := 24) dX12_many_24 r_0 (r_lt (k := 0) hh (by decide)) rfl (Nat.le_of_ble_eq_true rfl) (fun x hx => pX12_refuse_ok hh s2 (5 : Int32) x hx) rfl (fun x12 _ => ?_)
    exact s_iret (pc := 27) dX12_many_27 rfl (fun _ _ q => q)
theorem pX12_many_ok (hh : mo + 18 ≤ h.2.1) (s : RS) (a0 : Int32) : ∀ x, pX12_many s a0 = some x → aMet l 3 yX12_many cX12_many 5 (some .int) [.ref mo, .int a0] (rH mo h s) (some (.int x.1)) (rH mo h x.2) := fun x hx => a_meth (ini := false) (y := yX12_many) (by decide +kernel) (fun q => by cases q) (fun _ => Nat.le_of_ble_eq_true rfl) (pX12_many_w hh s a0) x hx _ _ ⟨rfl, rfl⟩
end
section
variable {l : Launch} {n0 S0 : Nat} {mo : Nat} {h : aH}
abbrev MJ9_max_7cf53 : aM := (cJ9_max_7cf53, RJ9, 2, (some .int), false)
def pJ9_max_7cf53 (a0 : Int32) (a1 : Int32) : Option Int32 :=
  if a0 < a1 then
    some a1
  else
    some a0
theorem pJ9_max_7cf53_w (a0 : Int32) (a1 : Int32) : aS l 0 MJ9_max_7cf53 n0 S0 (oΦ (fun (x : Int32) => (some (.int x), h))) 0 [(0, .int a0), (1, .int a1)] [] h (pJ9_max_7cf53 a0 a1) := by
  unfold pJ9_max_7cf53
  refine s_iload_n (pc := 0) 0 dJ9_max_7cf53_0 rfl ?_
  refine s_iload_n (pc := 1) 1 dJ9_max_7cf53_1 rfl ?_
  refine s_icmp_lt (tgt := 9) (pc := 2) dJ9_max_7cf53_2 (by decide) (fun _ => ?_) (fun _ => ?_)
  · refine s_iload_n (pc := 9) 1 dJ9_max_7cf53_9 rfl ?_
    exact s_iret (pc := 10) dJ9_max_7cf53_10 rfl (fun _ _ q => q)
  · refine s_iload_n (pc := 5) 0 dJ9_max_7cf53_5 rfl ?_
    refine s_goto (tgt := 10) (pc := 6) dJ9_max_7cf53_6 (by decide) ?_
    exact s_iret (pc := 10) dJ9_max_7cf53_10 rfl (fun _ _ q => q)
theorem pJ9_max_7cf53_ok (a0 : Int32) (a1 : Int32) : ∀ x, pJ9_max_7cf53 a0 a1 = some x → aMet l 0 yJ9_max_7cf53 cJ9_max_7cf53 2 (some .int) [.int a0, .int a1] h (some (.int x)) h := fun x hx => a_methF (ini := false) (y := yJ9_max_7cf53) (by decide +kernel) (fun q => by cases q) (fun _ => Nat.le_of_ble_eq_true rfl) (pJ9_max_7cf53_w a0 a1) x hx _ _ ⟨rfl, rfl⟩
end
section
variable {l : Launch} {n0 S0 : Nat} {mo : Nat} {h : aH} {dr : Nat}
abbrev MX12_levelOf : aM := (cX12_levelOf, RX12, 4, (some .int), false)
def X12_levelOf_x4 (l : Launch) (n0 S0 : Nat) (dr : Nat) (mo : Nat) (h : aH) (v1 : Int32) (s : RS) : Int32 → Option Value → aH → Prop := fun (x : Int32) r h' => aEv l (dr + 1) MX12_levelOf n0 S0 43 [(2, .int x)] [] (rH mo h s) r h'
def X12_levelOf_j37 (rc : RS → Int32 → Option Int32) (v1 : Int32) (v2 : Int32) (v3 : Int32) (s : RS) : Option ((Int32 × Int32) ⊕ Int32) :=
  thn (v3 + 1) fun x2 =>
  some (.inl (v2, x2))
theorem X12_levelOf_j37_ok (hh : mo + 18 ≤ h.2.1) {rc : RS → Int32 → Option Int32} (hrc : ∀ (s : RS) (a0 : Int32) x, rc s a0 = some x → aMet l dr yX12_levelOf cX12_levelOf 4 (some .int) [.ref mo, .int a0] (rH mo h s) (some (.int x)) (rH mo h s)) (v1 : Int32) (v2 : Int32) (v3 : Int32) (s : RS) : aS l (dr + 1) MX12_levelOf n0 S0 (a_LΦ (X12_levelOf_x4 l n0 S0 dr mo h v1 s) l (dr + 1) MX12_levelOf n0 S0 4 (fun (q : Int32 × Int32) => [(0, .ref mo), (1, .int v1), (2, .int q.1), (3, .int q.2)]) (fun _ => []) (fun (q : Int32 × Int32) => rH mo h s)) 37 [(0, .ref mo), (1, .int v1), (2, .int v2), (3, .int v3)] [] (rH mo h s) (X12_levelOf_j37 rc v1 v2 v3 s) := by
  unfold X12_levelOf_j37
  refine s_iincT (pc := 37) 3 (lv' := fun x2 => [(3, .int x2), (0, .ref mo), (1, .int v1), (2, .int v2)]) dX12_levelOf_37 rfl rfl (by decide) (fun _ => rfl) (fun x2 => ?_)
  refine s_goto (tgt := 4) (pc := 40) dX12_levelOf_40 (by decide) ?_
  refine s_sub [1, 2, 3, 0] rfl ?_
  exact s_ev (fun _ _ q => q)
def X12_levelOf_b4 (rc : RS → Int32 → Option Int32) (v1 : Int32) (v2 : Int32) (v3 : Int32) (s : RS) : Option ((Int32 × Int32) ⊕ Int32) :=
  if v1 ≤ v3 then
    some (.inr v2)
  else
    g_in ((82 : Int32) + v1) 1800 (
    (pX12_hasIn (s.2.2.1 4 ((82 : Int32) + v1).toNatClampNeg) v3).bind fun x1 =>
    if x1 = true then
      (rc s v3).bind fun x3 =>
      (pJ9_max_7cf53 v2 (x3 + (1 : Int32))).bind fun x4 =>
      X12_levelOf_j37 rc v1 x4 v3 s
    else
      X12_levelOf_j37 rc v1 v2 v3 s)
theorem X12_levelOf_b4_ok (hh : mo + 18 ≤ h.2.1) {rc : RS → Int32 → Option Int32} (hrc : ∀ (s : RS) (a0 : Int32) x, rc s a0 = some x → aMet l dr yX12_levelOf cX12_levelOf 4 (some .int) [.ref mo, .int a0] (rH mo h s) (some (.int x)) (rH mo h s)) (v1 : Int32) (v2 : Int32) (v3 : Int32) (s : RS) : aS l (dr + 1) MX12_levelOf n0 S0 (a_LΦ (X12_levelOf_x4 l n0 S0 dr mo h v1 s) l (dr + 1) MX12_levelOf n0 S0 4 (fun (q : Int32 × Int32) => [(0, .ref mo), (1, .int v1), (2, .int q.1), (3, .int q.2)]) (fun _ => []) (fun (q : Int32 × Int32) => rH mo h s)) 4 [(0, .ref mo), (1, .int v1), (2, .int v2), (3, .int v3)] [] (rH mo h s) (X12_levelOf_b4 rc v1 v2 v3 s) := by
  unfold X12_levelOf_b4
  refine s_iload_n (pc := 4) 3 dX12_levelOf_4 rfl ?_
  refine s_iload_n (pc := 5) 1 dX12_levelOf_5 rfl ?_
  refine s_icmp_ge (tgt := 43) (pc := 6) dX12_levelOf_6 (by decide) (fun _ => ?_) (fun _ => ?_)
  · refine s_sub [2] rfl ?_
    exact s_ev (fun _ _ q => q)
  · refine s_aload_n (pc := 9) 0 dX12_levelOf_9 rfl ?_
    refine rg_35 hh (pc := 10) dX12_levelOf_10 rfl ?_
    refine s_bipush (v := 82) (pc := 13) dX12_levelOf_13 (by decide) ?_
    refine s_iload_n (pc := 15) 1 dX12_levelOf_15 rfl ?_
    refine s_iadd (pc := 16) dX12_levelOf_16 ?_
    refine rl_4 hh (pc := 17) dX12_levelOf_17 ?_
    refine s_iload_n (pc := 18) 3 dX12_levelOf_18 rfl ?_
    refine s_callS (M := MX12_levelOf) (As := [.int (s.2.2.1 4 ((82 : Int32) + v1).toNatClampNeg), .int v3]) (st := []) (Ψ := fun (x : Bool) => (some (.int (b2i x)), rH mo h s)) cs_X12_302 (by omega) (pc := 19) dX12_levelOf_19 rfl (Nat.le_of_ble_eq_true rfl) (fun x hx => pX12_hasIn_ok (s.2.2.1 4 ((82 : Int32) + v1).toNatClampNeg) v3 x hx) rfl (fun x1 _ => ?_)
    refine s_if_eqB (tgt := 37) (pc := 22) dX12_levelOf_22 (by decide) (fun _ => ?_) (fun _ => ?_)
    · refine s_iload_n (pc := 25) 2 dX12_levelOf_25 rfl ?_
      refine s_aload_n (pc := 26) 0 dX12_levelOf_26 rfl ?_
      refine s_iload_n (pc := 27) 3 dX12_levelOf_27 rfl ?_
      refine s_callV (M := MX12_levelOf) (As := [.int v3]) (st := [.int v2]) (Ψ := fun (x : Int32) => (some (.int x), rH mo h s)) cv_X12_305 (by omega) (pc := 28) dX12_levelOf_28 r_0 (r_lt (k := 0) hh (by decide)) rfl (Nat.le_of_ble_eq_true rfl) (fun x hx => hrc s v3 x hx) rfl (fun x3 _ => ?_)
      refine s_iconst (v := 1) (pc := 31) dX12_levelOf_31 (by decide) ?_
      refine s_iadd (pc := 32) dX12_levelOf_32 ?_
      refine s_callS (M := MX12_levelOf) (As := [.int v2, .int (x3 + (1 : Int32))]) (st := []) (Ψ := fun (x : Int32) => (some (.int x), rH mo h s)) cs_X12_308 (by omega) (pc := 33) dX12_levelOf_33 rfl (Nat.le_of_ble_eq_true rfl) (fun x hx => pJ9_max_7cf53_ok v2 (x3 + (1 : Int32)) x hx) rfl (fun x4 _ => ?_)
      refine s_istore_n (lv' := [(2, .int x4), (0, .ref mo), (1, .int v1), (3, .int v3)]) (pc := 36) dX12_levelOf_36 (by decide) rfl ?_
      refine s_sub [1, 2, 0, 3] rfl ?_
      exact X12_levelOf_j37_ok hh hrc v1 x4 v3 s
    · exact X12_levelOf_j37_ok hh hrc v1 v2 v3 s
def pX12_levelOf_f (rc : RS → Int32 → Option Int32) (s : RS) (a0 : Int32) : Option Int32 :=
  (a_loop (fun (q : Int32 × Int32) => X12_levelOf_b4 rc a0 q.1 q.2 s) FU ((0 : Int32), (0 : Int32))).bind fun (t5 : Int32) =>
    some t5
theorem pX12_levelOf_f_w (hh : mo + 18 ≤ h.2.1) {rc : RS → Int32 → Option Int32} (hrc : ∀ (s : RS) (a0 : Int32) x, rc s a0 = some x → aMet l dr yX12_levelOf cX12_levelOf 4 (some .int) [.ref mo, .int a0] (rH mo h s) (some (.int x)) (rH mo h s)) (s : RS) (a0 : Int32) : aS l (dr + 1) MX12_levelOf n0 S0 (oΦ (fun (x : Int32) => (some (.int x), rH mo h s))) 0 [(0, .ref mo), (1, .int a0)] [] (rH mo h s) (pX12_levelOf_f rc s a0) := by
  unfold pX12_levelOf_f
  refine s_iconst (v := 0) (pc := 0) dX12_levelOf_0 (by decide) ?_
  refine s_istore_n (lv' := [(2, .int 0), (0, .ref mo), (1, .int a0)]) (pc := 1) dX12_levelOf_1 (by decide) rfl ?_
  refine s_iconst (v := 0) (pc := 2) dX12_levelOf_2 (by decide) ?_
  refine s_istore_n (lv' := [(3, .int 0), (2, .int 0), (0, .ref mo), (1, .int a0)]) (pc := 3) dX12_levelOf_3 (by decide) rfl ?_
  refine s_bind (Ψ := X12_levelOf_x4 l n0 S0 dr mo h a0 s) ?_ ?_
  · refine s_sub [2, 3, 1, 0] rfl ?_
    exact s_loop (lvf := fun (q : Int32 × Int32) => [(0, .ref mo), (1, .int a0), (2, .int q.1), (3, .int q.2)]) (stf := fun _ => []) (hf := fun (q : Int32 × Int32) => rH mo h s) (fun q => X12_levelOf_b4_ok hh hrc a0 q.1 q.2 s) FU ((0 : Int32), (0 : Int32))
  · intro t5 z r h' hz hr
    refine (?_ : aS l (dr + 1) MX12_levelOf n0 S0 (oΦ (fun (x : Int32) => (some (.int x), rH mo h s))) 43 [(2, .int t5)] [] (rH mo h s) _) z hz r h' hr
    refine s_iload_n (pc := 43) 0 dX12_levelOf_43 rfl ?_
    exact s_iret (pc := 44) dX12_levelOf_44 rfl (fun _ _ q => q)
theorem pX12_levelOf_f_ok (hh : mo + 18 ≤ h.2.1) {rc : RS → Int32 → Option Int32} (hrc : ∀ (s : RS) (a0 : Int32) x, rc s a0 = some x → aMet l dr yX12_levelOf cX12_levelOf 4 (some .int) [.ref mo, .int a0] (rH mo h s) (some (.int x)) (rH mo h s)) (s : RS) (a0 : Int32) : ∀ x, pX12_levelOf_f rc s a0 = some x → aMet l (dr + 1) yX12_levelOf cX12_levelOf 4 (some .int) [.ref mo, .int a0] (rH mo h s) (some (.int x)) (rH mo h s) := fun x hx => a_meth (ini := false) (y := yX12_levelOf) (by decide +kernel) (fun q => by cases q) (fun _ => Nat.le_of_ble_eq_true rfl) (pX12_levelOf_f_w hh hrc s a0) x hx _ _ ⟨rfl, rfl⟩
def pX12_levelOf : Nat → RS → Int32 → Option Int32
  | 0 => fun _ _ => none
  | n + 1 => fun s a0 => pX12_levelOf_f (pX12_levelOf n) s a0
theorem pX12_levelOf_ok (hh : mo + 18 ≤ h.2.1) : ∀ n : Nat, ∀ (s : RS) (a0 : Int32) x, pX12_levelOf n s a0 = some x → aMet l (1 * n) yX12_levelOf cX12_levelOf 4 (some .int) [.ref mo, .int a0] (rH mo h s) (some (.int x)) (rH mo h s)
  | 0 => fun _ _ x hx => by cases hx
  | n + 1 => fun s a0 x hx => by
    have := pX12_levelOf_f_ok (dr := 1 * n) hh (pX12_levelOf_ok hh n) s a0 x hx
    exact this
end
section
variable {l : Launch} {n0 S0 : Nat} {mo : Nat} {h : aH}
abbrev MX12_change : aM := (cX12_change, RX12, 4, (some .int), false)
def pX12_change (s : RS) (a0 : Int32) (a1 : Int32) : Option (Int32 × RS) :=
  thn (uI s 1 (0 : Int32)) fun s1 =>
  thn (uI s1 0 (0 : Int32)) fun s2 =>
  (pX12_isChange s2 a0).bind fun x3 =>
  if x3 = true then
    (pX12_kind s2 (0 : Int32) a0).bind fun x4 =>
    if a1 = 0 then
      some (x4, s2)
    else
      if a1 = 1 then
        if x4 = (2 : Int32) then
          g_in ((34 : Int32) + a0) 1800 (
          some ((s2.2.2.1 4 ((34 : Int32) + a0).toNatClampNeg), s2))
        else
          if x4 = 0 then
            g_in ((18 : Int32) + a0) 1800 (
            some ((s2.2.2.1 4 ((18 : Int32) + a0).toNatClampNeg), s2))
          else
            if x4 = (3 : Int32) then
              g_in ((18 : Int32) + a0) 1800 (
              some ((s2.2.2.1 4 ((18 : Int32) + a0).toNatClampNeg), s2))
            else
              some ((-1 : Int32), s2)
      else
        if a1 = 2 then
          if x4 = 0 then
            g_in ((34 : Int32) + a0) 1800 (
            some ((s2.2.2.1 4 ((34 : Int32) + a0).toNatClampNeg), s2))
          else
            (pX12_refuse s2 (8 : Int32)).bind fun x5 =>
            some (x5.1, x5.2)
        else
          if a1 = 3 then
            (pX12_thingOf s2 (0 : Int32) a0).bind fun x6 =>
            some (x6, s2)
          else
            if a1 = 4 then
              (pX12_levelOf 20 s2 a0).bind fun x7 =>
              some (x7, s2)
            else
              (pX12_refuse s2 (5 : Int32)).bind fun x8 =>
              some (x8.1, x8.2)
  else
    (pX12_refuse s2 (2 : Int32)).bind fun x14 =>
    some (x14.1, x14.2)
theorem pX12_change_w (hh : mo + 18 ≤ h.2.1) (s : RS) (a0 : Int32) (a1 : Int32) : aS l 21 MX12_change n0 S0 (oΦ (fun (x : Int32 × RS) => (some (.int x.1), rH mo h x.2))) 0 [(0, .ref mo), (1, .int a0), (2, .int a1)] [] (rH mo h s) (pX12_change s a0 a1) := by
  unfold pX12_change
  refine s_aload_n (pc := 0) 0 dX12_change_0 rfl ?_
  refine s_iconst (v := 0) (pc := 1) dX12_change_1 (by decide) ?_
  refine rp_75 hh (pc := 2) dX12_change_2 rfl (fun s1 => ?_)
  refine s_aload_n (pc := 5) 0 dX12_change_5 rfl ?_
  refine s_iconst (v := 0) (pc := 6) dX12_change_6 (by decide) ?_
  refine rp_78 hh (pc := 7) dX12_change_7 rfl (fun s2 => ?_)
  refine s_aload_n (pc := 10) 0 dX12_change_10 rfl ?_
  refine s_iload_n (pc := 11) 1 dX12_change_11 rfl ?_
  refine s_callV (M := MX12_change) (As := [.int a0]) (st := []) (Ψ := fun (x : Bool) => (some (.int (b2i x)), rH mo h s2)) cv_X12_311 (by decide) (pc := 12) dX12_change_12 r_0 (r_lt (k := 0) hh (by decide)) rfl (Nat.le_of_ble_eq_true rfl) (fun x hx => pX12_isChange_ok hh s2 a0 x hx) rfl (fun x3 _ => ?_)
  refine s_if_neB (tgt := 24) (pc := 15) dX12_change_15 (by decide) (fun _ => ?_) (fun _ => ?_)
  · refine s_aload_n (pc := 24) 0 dX12_change_24 rfl ?_
    refine s_iconst (v := 0) (pc := 25) dX12_change_25 (by decide) ?_
    refine s_iload_n (pc := 26) 1 dX12_change_26 rfl ?_
    refine s_callV (M := MX12_change) (As := [.int 0, .int a0]) (st := []) (Ψ := fun (x : Int32) => (some (.int x), rH mo h s2)) cv_X12_239 (by decide) (pc := 27) dX12_change_27 r_0 (r_lt (k := 0) hh (by decide)) rfl (Nat.le_of_ble_eq_true rfl) (fun x hx => pX12_kind_ok hh s2 (0 : Int32) a0 x hx) rfl (fun x4 _ => ?_)
    refine s_istore_n (lv' := [(3, .int x4), (0, .ref mo), (1, .int a0), (2, .int a1)]) (pc := 30) dX12_change_30 (by decide) rfl ?_
    refine s_iload_n (pc := 31) 3 dX12_change_31 rfl ?_
    refine s_case (c := a1 = 0) (fun c0 => ?_) (fun n9 => ?_)
    · refine s_tabIn (tgt := 68) (off := 36) (pc := 32) dX12_change_32 (by rw [c0]; decide) (by rw [c0]; decide) (by rw [c0]; rfl) (by decide) ?_
      refine s_iload_n (pc := 68) 0 dX12_change_68 rfl ?_
      exact s_iret (pc := 69) dX12_change_69 rfl (fun _ _ q => q)
    · refine s_case (c := a1 = 1) (fun c0 => ?_) (fun n10 => ?_)
      · refine s_tabIn (tgt := 70) (off := 38) (pc := 32) dX12_change_32 (by rw [c0]; decide) (by rw [c0]; decide) (by rw [c0]; rfl) (by decide) ?_
        refine s_iload_n (pc := 70) 0 dX12_change_70 rfl ?_
        refine s_iconst (v := 2) (pc := 71) dX12_change_71 (by decide) ?_
        refine s_icmp_ne (tgt := 87) (pc := 72) dX12_change_72 (by decide) (fun _ => ?_) (fun _ => ?_)
        · refine s_aload_n (pc := 75) 1 dX12_change_75 rfl ?_
          refine rg_35 hh (pc := 76) dX12_change_76 rfl ?_
          refine s_bipush (v := 34) (pc := 79) dX12_change_79 (by decide) ?_
          refine s_iload_n (pc := 81) 2 dX12_change_81 rfl ?_
          refine s_iadd (pc := 82) dX12_change_82 ?_
          refine rl_4 hh (pc := 83) dX12_change_83 ?_
          refine s_goto (tgt := 109) (pc := 84) dX12_change_84 (by decide) ?_
          exact s_iret (pc := 109) dX12_change_109 rfl (fun _ _ q => q)
        · refine s_iload_n (pc := 87) 0 dX12_change_87 rfl ?_
          refine s_if_eq (tgt := 96) (pc := 88) dX12_change_88 (by decide) (fun _ => ?_) (fun _ => ?_)
          · refine s_aload_n (pc := 96) 1 dX12_change_96 rfl ?_
            refine rg_35 hh (pc := 97) dX12_change_97 rfl ?_
            refine s_bipush (v := 18) (pc := 100) dX12_change_100 (by decide) ?_
            refine s_iload_n (pc := 102) 2 dX12_change_102 rfl ?_
            refine s_iadd (pc := 103) dX12_change_103 ?_
            refine rl_4 hh (pc := 104) dX12_change_104 ?_
            refine s_goto (tgt := 109) (pc := 105) dX12_change_105 (by decide) ?_
            exact s_iret (pc := 109) dX12_change_109 rfl (fun _ _ q => q)
          · refine s_iload_n (pc := 91) 0 dX12_change_91 rfl ?_
            refine s_iconst (v := 3) (pc := 92) dX12_change_92 (by decide) ?_
            refine s_icmp_ne (tgt := 108) (pc := 93) dX12_change_93 (by decide) (fun _ => ?_) (fun _ => ?_)
            · refine s_aload_n (pc := 96) 1 dX12_change_96 rfl ?_
              refine rg_35 hh (pc := 97) dX12_change_97 rfl ?_
              refine s_bipush (v := 18) (pc := 100) dX12_change_100 (by decide) ?_
              refine s_iload_n (pc := 102) 2 dX12_change_102 rfl ?_
              refine s_iadd (pc := 103) dX12_change_103 ?_
              refine rl_4 hh (pc := 104) dX12_change_104 ?_
              refine s_goto (tgt := 109) (pc := 105) dX12_change_105 (by decide) ?_
              exact s_iret (pc := 109) dX12_change_109 rfl (fun _ _ q => q)
            · refine s_iconst (v := (-1)) (pc := 108) dX12_change_108 (by decide) ?_
              exact s_iret (pc := 109) dX12_change_109 rfl (fun _ _ q => q)
      · refine s_case (c := a1 = 2) (fun c0 => ?_) (fun n11 => ?_)
        · refine s_tabIn (tgt := 110) (off := 78) (pc := 32) dX12_change_32 (by rw [c0]; decide) (by rw [c0]; decide) (by rw [c0]; rfl) (by decide) ?_
          refine s_iload_n (pc := 110) 0 dX12_change_110 rfl ?_
          refine s_if_ne (tgt := 126) (pc := 111) dX12_change_111 (by decide) (fun _ => ?_) (fun _ => ?_)
          · refine s_aload_n (pc := 114) 1 dX12_change_114 rfl ?_
            refine rg_35 hh (pc := 115) dX12_change_115 rfl ?_
            refine s_bipush (v := 34) (pc := 118) dX12_change_118 (by decide) ?_
            refine s_iload_n (pc := 120) 2 dX12_change_120 rfl ?_
            refine s_iadd (pc := 121) dX12_change_121 ?_
            refine rl_4 hh (pc := 122) dX12_change_122 ?_
            refine s_goto (tgt := 132) (pc := 123) dX12_change_123 (by decide) ?_
            exact s_iret (pc := 132) dX12_change_132 rfl (fun _ _ q => q)
          · refine s_aload_n (pc := 126) 1 dX12_change_126 rfl ?_
            refine s_bipush (v := 8) (pc := 127) dX12_change_127 (by decide) ?_
            refine s_callV (M := MX12_change) (As := [.int 8]) (st := []) (Ψ := fun (x : Int32 × RS) => (some (.int x.1), rH mo h x.2)) cv_X12_299 (by decide) (pc := 129) dX12_change_129 r_0 (r_lt (k := 0) hh (by decide)) rfl (Nat.le_of_ble_eq_true rfl) (fun x hx => pX12_refuse_ok hh s2 (8 : Int32) x hx) rfl (fun x5 _ => ?_)
            exact s_iret (pc := 132) dX12_change_132 rfl (fun _ _ q => q)
        · refine s_case (c := a1 = 3) (fun c0 => ?_) (fun n12 => ?_)
          · refine s_tabIn (tgt := 133) (off := 101) (pc := 32) dX12_change_32 (by rw [c0]; decide) (by rw [c0]; decide) (by rw [c0]; rfl) (by decide) ?_
            refine s_aload_n (pc := 133) 1 dX12_change_133 rfl ?_
            refine s_iconst (v := 0) (pc := 134) dX12_change_134 (by decide) ?_
            refine s_iload_n (pc := 135) 2 dX12_change_135 rfl ?_
            refine s_callV (M := MX12_change) (As := [.int 0, .int a0]) (st := []) (Ψ := fun (x : Int32) => (some (.int x), rH mo h s2)) cv_X12_246 (by decide) (pc := 136) dX12_change_136 r_0 (r_lt (k := 0) hh (by decide)) rfl (Nat.le_of_ble_eq_true rfl) (fun x hx => pX12_thingOf_ok hh s2 (0 : Int32) a0 x hx) rfl (fun x6 _ => ?_)
            exact s_iret (pc := 139) dX12_change_139 rfl (fun _ _ q => q)
          · refine s_case (c := a1 = 4) (fun c0 => ?_) (fun n13 => ?_)
            · refine s_tabIn (tgt := 140) (off := 108) (pc := 32) dX12_change_32 (by rw [c0]; decide) (by rw [c0]; decide) (by rw [c0]; rfl) (by decide) ?_
              refine s_aload_n (pc := 140) 1 dX12_change_140 rfl ?_
              refine s_iload_n (pc := 141) 2 dX12_change_141 rfl ?_
              refine s_callV (M := MX12_change) (As := [.int a0]) (st := []) (Ψ := fun (x : Int32) => (some (.int x), rH mo h s2)) cv_X12_305 (by decide) (pc := 142) dX12_change_142 r_0 (r_lt (k := 0) hh (by decide)) rfl (Nat.le_of_ble_eq_true rfl) (fun x hx => pX12_levelOf_ok hh 20 s2 a0 x hx) rfl (fun x7 _ => ?_)
              exact s_iret (pc := 145) dX12_change_145 rfl (fun _ _ q => q)
            · refine s_tabOut (tgt := 146) (pc := 32) dX12_change_32 (sw_out (fun i h1 h2 => by
                have hi : i = 0 ∨ i = 1 ∨ i = 2 ∨ i = 3 ∨ i = 4 := by omega
                rcases hi with rfl | rfl | rfl | rfl | rfl
                · exact fun q => n9 (q.trans (by decide))
                · exact fun q => n10 (q.trans (by decide))
                · exact fun q => n11 (q.trans (by decide))
                · exact fun q => n12 (q.trans (by decide))
                · exact fun q => n13 (q.trans (by decide)))) (by decide) ?_
              refine s_aload_n (pc := 146) 1 dX12_change_146 rfl ?_
              refine s_iconst (v := 5) (pc := 147) dX12_change_147 (by decide) ?_
              refine s_callV (M := MX12_change) (As := [.int 5]) (st := []) (Ψ := fun (x : Int32 × RS) => (some (.int x.1), rH mo h x.2)) cv_X12_299 (by decide) (pc := 148) dX12_change_148 r_0 (r_lt (k := 0) hh (by decide)) rfl (Nat.le_of_ble_eq_true rfl) (fun x hx => pX12_refuse_ok hh s2 (5 : Int32) x hx) rfl (fun x8 _ => ?_)
              exact s_iret (pc := 151) dX12_change_151 rfl (fun _ _ q => q)
  · refine s_aload_n (pc := 18) 0 dX12_change_18 rfl ?_
    refine s_iconst (v := 2) (pc := 19) dX12_change_19 (by decide) ?_
    refine s_callV (M := MX12_change) (As := [.int 2]) (st := []) (Ψ := fun (x : Int32 × RS) => (some (.int x.1), rH mo h x.2)) cv_X12_299 (by decide) (pc := 20) dX12_change_20 r_0 (r_lt (k := 0) hh (by decide)) rfl (Nat.le_of_ble_eq_true rfl) (fun x hx => pX12_refuse_ok hh s2 (2 : Int32) x hx) rfl (fun x14 _ => ?_)
    exact s_iret (pc := 23) dX12_change_23 rfl (fun _ _ q => q)
theorem pX12_change_ok (hh : mo + 18 ≤ h.2.1) (s : RS) (a0 : Int32) (a1 : Int32) : ∀ x, pX12_change s a0 a1 = some x → aMet l 21 yX12_change cX12_change 4 (some .int) [.ref mo, .int a0, .int a1] (rH mo h s) (some (.int x.1)) (rH mo h x.2) := fun x hx => a_meth (ini := false) (y := yX12_change) (by decide +kernel) (fun q => by cases q) (fun _ => Nat.le_of_ble_eq_true rfl) (pX12_change_w hh s a0 a1) x hx _ _ ⟨rfl, rfl⟩
end
section
variable {l : Launch} {n0 S0 : Nat} {mo : Nat} {h : aH}
abbrev MX12_hangers : aM := (cX12_hangers, RX12, 4, (some .int), false)
def X12_hangers_x4 (l : Launch) (n0 S0 : Nat) (mo : Nat) (h : aH) (v1 : Int32) (s : RS) : Int32 → Option Value → aH → Prop := fun (x : Int32) r h' => aEv l 1 MX12_hangers n0 S0 43 [(2, .int x)] [] (rH mo h s) r h'
def X12_hangers_j35 (v1 : Int32) (v3 : Int32) (k0 : Int32) (k1 : Int32) (s : RS) : Option ((Int32 × Int32) ⊕ Int32) :=
  thn (k0 ||| k1) fun x3 =>
  thn (v3 + 1) fun x4 =>
  some (.inl (x3, x4))
theorem X12_hangers_j35_ok (hh : mo + 18 ≤ h.2.1) (v1 : Int32) (v3 : Int32) (k0 : Int32) (k1 : Int32) (s : RS) : aS l 1 MX12_hangers n0 S0 (a_LΦ (X12_hangers_x4 l n0 S0 mo h v1 s) l 1 MX12_hangers n0 S0 4 (fun (q : Int32 × Int32) => [(0, .ref mo), (1, .int v1), (2, .int q.1), (3, .int q.2)]) (fun _ => []) (fun (q : Int32 × Int32) => rH mo h s)) 35 [(0, .ref mo), (1, .int v1), (3, .int v3)] [.int k1, .int k0] (rH mo h s) (X12_hangers_j35 v1 v3 k0 k1 s) := by
  unfold X12_hangers_j35
  refine s_ior (pc := 35) dX12_hangers_35 ?_
  refine s_istore_nT (lv' := fun x3 => [(2, .int x3), (0, .ref mo), (1, .int v1), (3, .int v3)]) (pc := 36) dX12_hangers_36 (by decide) (fun _ => rfl) (fun x3 => ?_)
  refine s_iincT (pc := 37) 3 (lv' := fun x4 => [(3, .int x4), (2, .int x3), (0, .ref mo), (1, .int v1)]) dX12_hangers_37 rfl rfl (by decide) (fun _ => rfl) (fun x4 => ?_)
  refine s_goto (tgt := 4) (pc := 40) dX12_hangers_40 (by decide) ?_
  refine s_sub [2, 3, 1, 0] rfl ?_
  exact s_ev (fun _ _ q => q)
def X12_hangers_b4 (v1 : Int32) (v2 : Int32) (v3 : Int32) (s : RS) : Option ((Int32 × Int32) ⊕ Int32) :=
  g_in (0 : Int32) 1800 (
  if (s.2.2.1 4 (0 : Int32).toNatClampNeg) ≤ v3 then
    some (.inr v2)
  else
    (pX12_hangsOn s (0 : Int32) v3).bind fun x1 =>
    (pX12_hasIn x1 v1).bind fun x2 =>
    if x2 = true then
      X12_hangers_j35 v1 v3 v2 ((1 : Int32) <<< (v3 &&& 31)) s
    else
      X12_hangers_j35 v1 v3 v2 (0 : Int32) s)
theorem X12_hangers_b4_ok (hh : mo + 18 ≤ h.2.1) (v1 : Int32) (v2 : Int32) (v3 : Int32) (s : RS) : aS l 1 MX12_hangers n0 S0 (a_LΦ (X12_hangers_x4 l n0 S0 mo h v1 s) l 1 MX12_hangers n0 S0 4 (fun (q : Int32 × Int32) => [(0, .ref mo), (1, .int v1), (2, .int q.1), (3, .int q.2)]) (fun _ => []) (fun (q : Int32 × Int32) => rH mo h s)) 4 [(0, .ref mo), (1, .int v1), (2, .int v2), (3, .int v3)] [] (rH mo h s) (X12_hangers_b4 v1 v2 v3 s) := by
  unfold X12_hangers_b4
  refine s_iload_n (pc := 4) 3 dX12_hangers_4 rfl ?_
  refine s_aload_n (pc := 5) 0 dX12_hangers_5 rfl ?_
  refine rg_35 hh (pc := 6) dX12_hangers_6 rfl ?_
  refine s_iconst (v := 0) (pc := 9) dX12_hangers_9 (by decide) ?_
  refine rl_4 hh (pc := 10) dX12_hangers_10 ?_
  refine s_icmp_ge (tgt := 43) (pc := 11) dX12_hangers_11 (by decide) (fun _ => ?_) (fun _ => ?_)
  · refine s_sub [2] rfl ?_
    exact s_ev (fun _ _ q => q)
  · refine s_iload_n (pc := 14) 2 dX12_hangers_14 rfl ?_
    refine s_aload_n (pc := 15) 0 dX12_hangers_15 rfl ?_
    refine s_iconst (v := 0) (pc := 16) dX12_hangers_16 (by decide) ?_
    refine s_iload_n (pc := 17) 3 dX12_hangers_17 rfl ?_
    refine s_callV (M := MX12_hangers) (As := [.int 0, .int v3]) (st := [.int v2]) (Ψ := fun (x : Int32) => (some (.int x), rH mo h s)) cv_X12_249 (by decide) (pc := 18) dX12_hangers_18 r_0 (r_lt (k := 0) hh (by decide)) rfl (Nat.le_of_ble_eq_true rfl) (fun x hx => pX12_hangsOn_ok hh s (0 : Int32) v3 x hx) rfl (fun x1 _ => ?_)
    refine s_iload_n (pc := 21) 1 dX12_hangers_21 rfl ?_
    refine s_callS (M := MX12_hangers) (As := [.int x1, .int v1]) (st := [.int v2]) (Ψ := fun (x : Bool) => (some (.int (b2i x)), rH mo h s)) cs_X12_302 (by decide) (pc := 22) dX12_hangers_22 rfl (Nat.le_of_ble_eq_true rfl) (fun x hx => pX12_hasIn_ok x1 v1 x hx) rfl (fun x2 _ => ?_)
    refine s_if_eqB (tgt := 34) (pc := 25) dX12_hangers_25 (by decide) (fun _ => ?_) (fun _ => ?_)
    · refine s_iconst (v := 1) (pc := 28) dX12_hangers_28 (by decide) ?_
      refine s_iload_n (pc := 29) 3 dX12_hangers_29 rfl ?_
      refine s_ishl (pc := 30) dX12_hangers_30 ?_
      refine s_goto (tgt := 35) (pc := 31) dX12_hangers_31 (by decide) ?_
      refine s_sub [0, 1, 3] rfl ?_
      exact X12_hangers_j35_ok hh v1 v3 v2 ((1 : Int32) <<< (v3 &&& 31)) s
    · refine s_iconst (v := 0) (pc := 34) dX12_hangers_34 (by decide) ?_
      refine s_sub [0, 1, 3] rfl ?_
      exact X12_hangers_j35_ok hh v1 v3 v2 (0 : Int32) s
def pX12_hangers (s : RS) (a0 : Int32) : Option Int32 :=
  (a_loop (fun (q : Int32 × Int32) => X12_hangers_b4 a0 q.1 q.2 s) FU ((0 : Int32), (0 : Int32))).bind fun (t5 : Int32) =>
    some t5
theorem pX12_hangers_w (hh : mo + 18 ≤ h.2.1) (s : RS) (a0 : Int32) : aS l 1 MX12_hangers n0 S0 (oΦ (fun (x : Int32) => (some (.int x), rH mo h s))) 0 [(0, .ref mo), (1, .int a0)] [] (rH mo h s) (pX12_hangers s a0) := by
  unfold pX12_hangers
  refine s_iconst (v := 0) (pc := 0) dX12_hangers_0 (by decide) ?_
  refine s_istore_n (lv' := [(2, .int 0), (0, .ref mo), (1, .int a0)]) (pc := 1) dX12_hangers_1 (by decide) rfl ?_
  refine s_iconst (v := 0) (pc := 2) dX12_hangers_2 (by decide) ?_
  refine s_istore_n (lv' := [(3, .int 0), (2, .int 0), (0, .ref mo), (1, .int a0)]) (pc := 3) dX12_hangers_3 (by decide) rfl ?_
  refine s_bind (Ψ := X12_hangers_x4 l n0 S0 mo h a0 s) ?_ ?_
  · refine s_sub [2, 3, 1, 0] rfl ?_
    exact s_loop (lvf := fun (q : Int32 × Int32) => [(0, .ref mo), (1, .int a0), (2, .int q.1), (3, .int q.2)]) (stf := fun _ => []) (hf := fun (q : Int32 × Int32) => rH mo h s) (fun q => X12_hangers_b4_ok hh a0 q.1 q.2 s) FU ((0 : Int32), (0 : Int32))
  · intro t5 z r h' hz hr
    refine (?_ : aS l 1 MX12_hangers n0 S0 (oΦ (fun (x : Int32) => (some (.int x), rH mo h s))) 43 [(2, .int t5)] [] (rH mo h s) _) z hz r h' hr
    refine s_iload_n (pc := 43) 0 dX12_hangers_43 rfl ?_
    exact s_iret (pc := 44) dX12_hangers_44 rfl (fun _ _ q => q)
theorem pX12_hangers_ok (hh : mo + 18 ≤ h.2.1) (s : RS) (a0 : Int32) : ∀ x, pX12_hangers s a0 = some x → aMet l 1 yX12_hangers cX12_hangers 4 (some .int) [.ref mo, .int a0] (rH mo h s) (some (.int x)) (rH mo h s) := fun x hx => a_meth (ini := false) (y := yX12_hangers) (by decide +kernel) (fun q => by cases q) (fun _ => Nat.le_of_ble_eq_true rfl) (pX12_hangers_w hh s a0) x hx _ _ ⟨rfl, rfl⟩
end
section
variable {l : Launch} {n0 S0 : Nat} {mo : Nat} {h : aH}
abbrev MX12_hangs : aM := (cX12_hangs, RX12, 3, (some .int), false)
def pX12_hangs (s : RS) (a0 : Int32) (a1 : Int32) : Option (Int32 × RS) :=
  thn (uI s 1 (0 : Int32)) fun s1 =>
  thn (uI s1 0 (0 : Int32)) fun s2 =>
  (pX12_isChange s2 a0).bind fun x3 =>
  if x3 = true then
    (pX12_isIn a1.toInt64 (0 : Int64) (2 : Int64)).bind fun x4 =>
    if x4 = true then
      if a1 = 0 then
        g_in ((82 : Int32) + a0) 1800 (
        some ((s2.2.2.1 4 ((82 : Int32) + a0).toNatClampNeg), s2))
      else
        if a1 = (1 : Int32) then
          (pX12_hangsOn s2 (0 : Int32) a0).bind fun x6 =>
          some (x6, s2)
        else
          (pX12_hangers s2 a0).bind fun x5 =>
          some (x5, s2)
    else
      (pX12_refuse s2 (5 : Int32)).bind fun x7 =>
      some (x7.1, x7.2)
  else
    (pX12_refuse s2 (2 : Int32)).bind fun x8 =>
    some (x8.1, x8.2)
theorem pX12_hangs_w (hh : mo + 18 ≤ h.2.1) (s : RS) (a0 : Int32) (a1 : Int32) : aS l 2 MX12_hangs n0 S0 (oΦ (fun (x : Int32 × RS) => (some (.int x.1), rH mo h x.2))) 0 [(0, .ref mo), (1, .int a0), (2, .int a1)] [] (rH mo h s) (pX12_hangs s a0 a1) := by
  unfold pX12_hangs
  refine s_aload_n (pc := 0) 0 dX12_hangs_0 rfl ?_
  refine s_iconst (v := 0) (pc := 1) dX12_hangs_1 (by decide) ?_
  refine rp_75 hh (pc := 2) dX12_hangs_2 rfl (fun s1 => ?_)
  refine s_aload_n (pc := 5) 0 dX12_hangs_5 rfl ?_
  refine s_iconst (v := 0) (pc := 6) dX12_hangs_6 (by decide) ?_
  refine rp_78 hh (pc := 7) dX12_hangs_7 rfl (fun s2 => ?_)
  refine s_aload_n (pc := 10) 0 dX12_hangs_10 rfl ?_
  refine s_iload_n (pc := 11) 1 dX12_hangs_11 rfl ?_
  refine s_callV (M := MX12_hangs) (As := [.int a0]) (st := []) (Ψ := fun (x : Bool) => (some (.int (b2i x)), rH mo h s2)) cv_X12_311 (by decide) (pc := 12) dX12_hangs_12 r_0 (r_lt (k := 0) hh (by decide)) rfl (Nat.le_of_ble_eq_true rfl) (fun x hx => pX12_isChange_ok hh s2 a0 x hx) rfl (fun x3 _ => ?_)
  refine s_if_neB (tgt := 24) (pc := 15) dX12_hangs_15 (by decide) (fun _ => ?_) (fun _ => ?_)
  · refine s_iload_n (pc := 24) 2 dX12_hangs_24 rfl ?_
    refine s_i2l (pc := 25) dX12_hangs_25 ?_
    refine s_lconst (v := 0) (pc := 26) dX12_hangs_26 (by decide) ?_
    refine s_ldc2 (v := 2) (pc := 27) dX12_hangs_27 wk_X12_314 ?_
    refine s_callS (M := MX12_hangs) (As := [.long a1.toInt64, .long (0 : Int64), .long (2 : Int64)]) (st := []) (Ψ := fun (x : Bool) => (some (.int (b2i x)), rH mo h s2)) cs_X12_110 (by decide) (pc := 30) dX12_hangs_30 rfl (Nat.le_of_ble_eq_true rfl) (fun x hx => pX12_isIn_ok a1.toInt64 (0 : Int64) (2 : Int64) x hx) rfl (fun x4 _ => ?_)
    refine s_if_neB (tgt := 42) (pc := 33) dX12_hangs_33 (by decide) (fun _ => ?_) (fun _ => ?_)
    · refine s_iload_n (pc := 42) 2 dX12_hangs_42 rfl ?_
      refine s_if_ne (tgt := 58) (pc := 43) dX12_hangs_43 (by decide) (fun _ => ?_) (fun _ => ?_)
      · refine s_aload_n (pc := 46) 0 dX12_hangs_46 rfl ?_
        refine rg_35 hh (pc := 47) dX12_hangs_47 rfl ?_
        refine s_bipush (v := 82) (pc := 50) dX12_hangs_50 (by decide) ?_
        refine s_iload_n (pc := 52) 1 dX12_hangs_52 rfl ?_
        refine s_iadd (pc := 53) dX12_hangs_53 ?_
        refine rl_4 hh (pc := 54) dX12_hangs_54 ?_
        refine s_goto (tgt := 77) (pc := 55) dX12_hangs_55 (by decide) ?_
        exact s_iret (pc := 77) dX12_hangs_77 rfl (fun _ _ q => q)
      · refine s_iload_n (pc := 58) 2 dX12_hangs_58 rfl ?_
        refine s_iconst (v := 1) (pc := 59) dX12_hangs_59 (by decide) ?_
        refine s_icmp_ne (tgt := 72) (pc := 60) dX12_hangs_60 (by decide) (fun _ => ?_) (fun _ => ?_)
        · refine s_aload_n (pc := 63) 0 dX12_hangs_63 rfl ?_
          refine s_iconst (v := 0) (pc := 64) dX12_hangs_64 (by decide) ?_
          refine s_iload_n (pc := 65) 1 dX12_hangs_65 rfl ?_
          refine s_callV (M := MX12_hangs) (As := [.int 0, .int a0]) (st := []) (Ψ := fun (x : Int32) => (some (.int x), rH mo h s2)) cv_X12_249 (by decide) (pc := 66) dX12_hangs_66 r_0 (r_lt (k := 0) hh (by decide)) rfl (Nat.le_of_ble_eq_true rfl) (fun x hx => pX12_hangsOn_ok hh s2 (0 : Int32) a0 x hx) rfl (fun x6 _ => ?_)
          refine s_goto (tgt := 77) (pc := 69) dX12_hangs_69 (by decide) ?_
          exact s_iret (pc := 77) dX12_hangs_77 rfl (fun _ _ q => q)
        · refine s_aload_n (pc := 72) 0 dX12_hangs_72 rfl ?_
          refine s_iload_n (pc := 73) 1 dX12_hangs_73 rfl ?_
          refine s_callV (M := MX12_hangs) (As := [.int a0]) (st := []) (Ψ := fun (x : Int32) => (some (.int x), rH mo h s2)) cv_X12_316 (by decide) (pc := 74) dX12_hangs_74 r_0 (r_lt (k := 0) hh (by decide)) rfl (Nat.le_of_ble_eq_true rfl) (fun x hx => pX12_hangers_ok hh s2 a0 x hx) rfl (fun x5 _ => ?_)
          exact s_iret (pc := 77) dX12_hangs_77 rfl (fun _ _ q => q)
    · refine s_aload_n (pc := 36) 0 dX12_hangs_36 rfl ?_
      refine s_iconst (v := 5) (pc := 37) dX12_hangs_37 (by decide) ?_
      refine s_callV (M := MX12_hangs) (As := [.int 5]) (st := []) (Ψ := fun (x : Int32 × RS) => (some (.int x.1), rH mo h x.2)) cv_X12_299 (by decide) (pc := 38) dX12_hangs_38 r_0 (r_lt (k := 0) hh (by decide)) rfl (Nat.le_of_ble_eq_true rfl) (fun x hx => pX12_refuse_ok hh s2 (5 : Int32) x hx) rfl (fun x7 _ => ?_)
      exact s_iret (pc := 41) dX12_hangs_41 rfl (fun _ _ q => q)
  · refine s_aload_n (pc := 18) 0 dX12_hangs_18 rfl ?_
    refine s_iconst (v := 2) (pc := 19) dX12_hangs_19 (by decide) ?_
    refine s_callV (M := MX12_hangs) (As := [.int 2]) (st := []) (Ψ := fun (x : Int32 × RS) => (some (.int x.1), rH mo h x.2)) cv_X12_299 (by decide) (pc := 20) dX12_hangs_20 r_0 (r_lt (k := 0) hh (by decide)) rfl (Nat.le_of_ble_eq_true rfl) (fun x hx => pX12_refuse_ok hh s2 (2 : Int32) x hx) rfl (fun x8 _ => ?_)
    exact s_iret (pc := 23) dX12_hangs_23 rfl (fun _ _ q => q)
theorem pX12_hangs_ok (hh : mo + 18 ≤ h.2.1) (s : RS) (a0 : Int32) (a1 : Int32) : ∀ x, pX12_hangs s a0 a1 = some x → aMet l 2 yX12_hangs cX12_hangs 3 (some .int) [.ref mo, .int a0, .int a1] (rH mo h s) (some (.int x.1)) (rH mo h x.2) := fun x hx => a_meth (ini := false) (y := yX12_hangs) (by decide +kernel) (fun q => by cases q) (fun _ => Nat.le_of_ble_eq_true rfl) (pX12_hangs_w hh s a0 a1) x hx _ _ ⟨rfl, rfl⟩
end
section
variable {l : Launch} {n0 S0 : Nat} {mo : Nat} {h : aH}
abbrev MX12_lackOf : aM := (cX12_lackOf, RX12, 4, (some .int), false)
def X12_lackOf_x4 (l : Launch) (n0 S0 : Nat) (mo : Nat) (h : aH) (v1 : Int32) (s : RS) : Int32 → Option Value → aH → Prop := fun (x : Int32) r h' => aEv l 1 MX12_lackOf n0 S0 41 [(1, .int v1), (2, .int x)] [] (rH mo h s) r h'
def X12_lackOf_j33 (v1 : Int32) (v3 : Int32) (k0 : Int32) (k1 : Int32) (s : RS) : Option ((Int32 × Int32) ⊕ Int32) :=
  thn (k0 ||| k1) fun x2 =>
  thn (v3 + 1) fun x3 =>
  some (.inl (x2, x3))
theorem X12_lackOf_j33_ok (hh : mo + 18 ≤ h.2.1) (v1 : Int32) (v3 : Int32) (k0 : Int32) (k1 : Int32) (s : RS) : aS l 1 MX12_lackOf n0 S0 (a_LΦ (X12_lackOf_x4 l n0 S0 mo h v1 s) l 1 MX12_lackOf n0 S0 4 (fun (q : Int32 × Int32) => [(0, .ref mo), (1, .int v1), (2, .int q.1), (3, .int q.2)]) (fun _ => []) (fun (q : Int32 × Int32) => rH mo h s)) 33 [(0, .ref mo), (1, .int v1), (3, .int v3)] [.int k1, .int k0] (rH mo h s) (X12_lackOf_j33 v1 v3 k0 k1 s) := by
  unfold X12_lackOf_j33
  refine s_ior (pc := 33) dX12_lackOf_33 ?_
  refine s_istore_nT (lv' := fun x2 => [(2, .int x2), (0, .ref mo), (1, .int v1), (3, .int v3)]) (pc := 34) dX12_lackOf_34 (by decide) (fun _ => rfl) (fun x2 => ?_)
  refine s_iincT (pc := 35) 3 (lv' := fun x3 => [(3, .int x3), (2, .int x2), (0, .ref mo), (1, .int v1)]) dX12_lackOf_35 rfl rfl (by decide) (fun _ => rfl) (fun x3 => ?_)
  refine s_goto (tgt := 4) (pc := 38) dX12_lackOf_38 (by decide) ?_
  refine s_sub [2, 3, 1, 0] rfl ?_
  exact s_ev (fun _ _ q => q)
def X12_lackOf_b4 (v1 : Int32) (v2 : Int32) (v3 : Int32) (s : RS) : Option ((Int32 × Int32) ⊕ Int32) :=
  g_in (0 : Int32) 1800 (
  if (s.2.2.1 4 (0 : Int32).toNatClampNeg) ≤ v3 then
    some (.inr v2)
  else
    (pX12_hasIn v1 v3).bind fun x1 =>
    if x1 = true then
      (pX12_hangsOn s (0 : Int32) v3).bind fun x4 =>
      X12_lackOf_j33 v1 v3 v2 x4 s
    else
      X12_lackOf_j33 v1 v3 v2 (0 : Int32) s)
theorem X12_lackOf_b4_ok (hh : mo + 18 ≤ h.2.1) (v1 : Int32) (v2 : Int32) (v3 : Int32) (s : RS) : aS l 1 MX12_lackOf n0 S0 (a_LΦ (X12_lackOf_x4 l n0 S0 mo h v1 s) l 1 MX12_lackOf n0 S0 4 (fun (q : Int32 × Int32) => [(0, .ref mo), (1, .int v1), (2, .int q.1), (3, .int q.2)]) (fun _ => []) (fun (q : Int32 × Int32) => rH mo h s)) 4 [(0, .ref mo), (1, .int v1), (2, .int v2), (3, .int v3)] [] (rH mo h s) (X12_lackOf_b4 v1 v2 v3 s) := by
  unfold X12_lackOf_b4
  refine s_iload_n (pc := 4) 3 dX12_lackOf_4 rfl ?_
  refine s_aload_n (pc := 5) 0 dX12_lackOf_5 rfl ?_
  refine rg_35 hh (pc := 6) dX12_lackOf_6 rfl ?_
  refine s_iconst (v := 0) (pc := 9) dX12_lackOf_9 (by decide) ?_
  refine rl_4 hh (pc := 10) dX12_lackOf_10 ?_
  refine s_icmp_ge (tgt := 41) (pc := 11) dX12_lackOf_11 (by decide) (fun _ => ?_) (fun _ => ?_)
  · refine s_sub [1, 2] rfl ?_
    exact s_ev (fun _ _ q => q)
  · refine s_iload_n (pc := 14) 2 dX12_lackOf_14 rfl ?_
    refine s_iload_n (pc := 15) 1 dX12_lackOf_15 rfl ?_
    refine s_iload_n (pc := 16) 3 dX12_lackOf_16 rfl ?_
    refine s_callS (M := MX12_lackOf) (As := [.int v1, .int v3]) (st := [.int v2]) (Ψ := fun (x : Bool) => (some (.int (b2i x)), rH mo h s)) cs_X12_302 (by decide) (pc := 17) dX12_lackOf_17 rfl (Nat.le_of_ble_eq_true rfl) (fun x hx => pX12_hasIn_ok v1 v3 x hx) rfl (fun x1 _ => ?_)
    refine s_if_eqB (tgt := 32) (pc := 20) dX12_lackOf_20 (by decide) (fun _ => ?_) (fun _ => ?_)
    · refine s_aload_n (pc := 23) 0 dX12_lackOf_23 rfl ?_
      refine s_iconst (v := 0) (pc := 24) dX12_lackOf_24 (by decide) ?_
      refine s_iload_n (pc := 25) 3 dX12_lackOf_25 rfl ?_
      refine s_callV (M := MX12_lackOf) (As := [.int 0, .int v3]) (st := [.int v2]) (Ψ := fun (x : Int32) => (some (.int x), rH mo h s)) cv_X12_249 (by decide) (pc := 26) dX12_lackOf_26 r_0 (r_lt (k := 0) hh (by decide)) rfl (Nat.le_of_ble_eq_true rfl) (fun x hx => pX12_hangsOn_ok hh s (0 : Int32) v3 x hx) rfl (fun x4 _ => ?_)
      refine s_goto (tgt := 33) (pc := 29) dX12_lackOf_29 (by decide) ?_
      refine s_sub [0, 1, 3] rfl ?_
      exact X12_lackOf_j33_ok hh v1 v3 v2 x4 s
    · refine s_iconst (v := 0) (pc := 32) dX12_lackOf_32 (by decide) ?_
      refine s_sub [0, 1, 3] rfl ?_
      exact X12_lackOf_j33_ok hh v1 v3 v2 (0 : Int32) s
def pX12_lackOf (s : RS) (a0 : Int32) : Option Int32 :=
  (a_loop (fun (q : Int32 × Int32) => X12_lackOf_b4 a0 q.1 q.2 s) FU ((0 : Int32), (0 : Int32))).bind fun (t5 : Int32) =>
    some (t5 &&& (a0 ^^^ (-1 : Int32)))
theorem pX12_lackOf_w (hh : mo + 18 ≤ h.2.1) (s : RS) (a0 : Int32) : aS l 1 MX12_lackOf n0 S0 (oΦ (fun (x : Int32) => (some (.int x), rH mo h s))) 0 [(0, .ref mo), (1, .int a0)] [] (rH mo h s) (pX12_lackOf s a0) := by
  unfold pX12_lackOf
  refine s_iconst (v := 0) (pc := 0) dX12_lackOf_0 (by decide) ?_
  refine s_istore_n (lv' := [(2, .int 0), (0, .ref mo), (1, .int a0)]) (pc := 1) dX12_lackOf_1 (by decide) rfl ?_
  refine s_iconst (v := 0) (pc := 2) dX12_lackOf_2 (by decide) ?_
  refine s_istore_n (lv' := [(3, .int 0), (2, .int 0), (0, .ref mo), (1, .int a0)]) (pc := 3) dX12_lackOf_3 (by decide) rfl ?_
  refine s_bind (Ψ := X12_lackOf_x4 l n0 S0 mo h a0 s) ?_ ?_
  · refine s_sub [2, 3, 1, 0] rfl ?_
    exact s_loop (lvf := fun (q : Int32 × Int32) => [(0, .ref mo), (1, .int a0), (2, .int q.1), (3, .int q.2)]) (stf := fun _ => []) (hf := fun (q : Int32 × Int32) => rH mo h s) (fun q => X12_lackOf_b4_ok hh a0 q.1 q.2 s) FU ((0 : Int32), (0 : Int32))
  · intro t5 z r h' hz hr
    refine (?_ : aS l 1 MX12_lackOf n0 S0 (oΦ (fun (x : Int32) => (some (.int x), rH mo h s))) 41 [(1, .int a0), (2, .int t5)] [] (rH mo h s) _) z hz r h' hr
    refine s_iload_n (pc := 41) 1 dX12_lackOf_41 rfl ?_
    refine s_iload_n (pc := 42) 0 dX12_lackOf_42 rfl ?_
    refine s_iconst (v := (-1)) (pc := 43) dX12_lackOf_43 (by decide) ?_
    refine s_ixor (pc := 44) dX12_lackOf_44 ?_
    refine s_iand (pc := 45) dX12_lackOf_45 ?_
    exact s_iret (pc := 46) dX12_lackOf_46 rfl (fun _ _ q => q)
theorem pX12_lackOf_ok (hh : mo + 18 ≤ h.2.1) (s : RS) (a0 : Int32) : ∀ x, pX12_lackOf s a0 = some x → aMet l 1 yX12_lackOf cX12_lackOf 4 (some .int) [.ref mo, .int a0] (rH mo h s) (some (.int x)) (rH mo h s) := fun x hx => a_meth (ini := false) (y := yX12_lackOf) (by decide +kernel) (fun q => by cases q) (fun _ => Nat.le_of_ble_eq_true rfl) (pX12_lackOf_w hh s a0) x hx _ _ ⟨rfl, rfl⟩
end
section
variable {l : Launch} {n0 S0 : Nat} {mo : Nat} {h : aH}
abbrev MX12_holds : aM := (cX12_holds, RX12, 2, (some .int), false)
def pX12_holds (s : RS) (a0 : Int32) : Option (Int32 × RS) :=
  thn (uI s 1 (0 : Int32)) fun s1 =>
  thn (uI s1 0 (0 : Int32)) fun s2 =>
  (pX12_isSet s2 a0).bind fun x3 =>
  if x3 = true then
    (pX12_lackOf s2 a0).bind fun x4 =>
    if x4 = 0 then
      some ((1 : Int32), s2)
    else
      some ((0 : Int32), s2)
  else
    (pX12_refuse s2 (2 : Int32)).bind fun x5 =>
    some (x5.1, x5.2)
theorem pX12_holds_w (hh : mo + 18 ≤ h.2.1) (s : RS) (a0 : Int32) : aS l 2 MX12_holds n0 S0 (oΦ (fun (x : Int32 × RS) => (some (.int x.1), rH mo h x.2))) 0 [(0, .ref mo), (1, .int a0)] [] (rH mo h s) (pX12_holds s a0) := by
  unfold pX12_holds
  refine s_aload_n (pc := 0) 0 dX12_holds_0 rfl ?_
  refine s_iconst (v := 0) (pc := 1) dX12_holds_1 (by decide) ?_
  refine rp_75 hh (pc := 2) dX12_holds_2 rfl (fun s1 => ?_)
  refine s_aload_n (pc := 5) 0 dX12_holds_5 rfl ?_
  refine s_iconst (v := 0) (pc := 6) dX12_holds_6 (by decide) ?_
  refine rp_78 hh (pc := 7) dX12_holds_7 rfl (fun s2 => ?_)
  refine s_aload_n (pc := 10) 0 dX12_holds_10 rfl ?_
  refine s_iload_n (pc := 11) 1 dX12_holds_11 rfl ?_
  refine s_callV (M := MX12_holds) (As := [.int a0]) (st := []) (Ψ := fun (x : Bool) => (some (.int (b2i x)), rH mo h s2)) cv_X12_319 (by decide) (pc := 12) dX12_holds_12 r_0 (r_lt (k := 0) hh (by decide)) rfl (Nat.le_of_ble_eq_true rfl) (fun x hx => pX12_isSet_ok hh s2 a0 x hx) rfl (fun x3 _ => ?_)
  refine s_if_neB (tgt := 24) (pc := 15) dX12_holds_15 (by decide) (fun _ => ?_) (fun _ => ?_)
  · refine s_aload_n (pc := 24) 0 dX12_holds_24 rfl ?_
    refine s_iload_n (pc := 25) 1 dX12_holds_25 rfl ?_
    refine s_callV (M := MX12_holds) (As := [.int a0]) (st := []) (Ψ := fun (x : Int32) => (some (.int x), rH mo h s2)) cv_X12_322 (by decide) (pc := 26) dX12_holds_26 r_0 (r_lt (k := 0) hh (by decide)) rfl (Nat.le_of_ble_eq_true rfl) (fun x hx => pX12_lackOf_ok hh s2 a0 x hx) rfl (fun x4 _ => ?_)
    refine s_if_ne (tgt := 36) (pc := 29) dX12_holds_29 (by decide) (fun _ => ?_) (fun _ => ?_)
    · refine s_iconst (v := 1) (pc := 32) dX12_holds_32 (by decide) ?_
      refine s_goto (tgt := 37) (pc := 33) dX12_holds_33 (by decide) ?_
      exact s_iret (pc := 37) dX12_holds_37 rfl (fun _ _ q => q)
    · refine s_iconst (v := 0) (pc := 36) dX12_holds_36 (by decide) ?_
      exact s_iret (pc := 37) dX12_holds_37 rfl (fun _ _ q => q)
  · refine s_aload_n (pc := 18) 0 dX12_holds_18 rfl ?_
    refine s_iconst (v := 2) (pc := 19) dX12_holds_19 (by decide) ?_
    refine s_callV (M := MX12_holds) (As := [.int 2]) (st := []) (Ψ := fun (x : Int32 × RS) => (some (.int x.1), rH mo h x.2)) cv_X12_299 (by decide) (pc := 20) dX12_holds_20 r_0 (r_lt (k := 0) hh (by decide)) rfl (Nat.le_of_ble_eq_true rfl) (fun x hx => pX12_refuse_ok hh s2 (2 : Int32) x hx) rfl (fun x5 _ => ?_)
    exact s_iret (pc := 23) dX12_holds_23 rfl (fun _ _ q => q)
theorem pX12_holds_ok (hh : mo + 18 ≤ h.2.1) (s : RS) (a0 : Int32) : ∀ x, pX12_holds s a0 = some x → aMet l 2 yX12_holds cX12_holds 2 (some .int) [.ref mo, .int a0] (rH mo h s) (some (.int x.1)) (rH mo h x.2) := fun x hx => a_meth (ini := false) (y := yX12_holds) (by decide +kernel) (fun q => by cases q) (fun _ => Nat.le_of_ble_eq_true rfl) (pX12_holds_w hh s a0) x hx _ _ ⟨rfl, rfl⟩
end
