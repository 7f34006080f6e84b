section
variable {l : Launch} {n0 S0 : Nat} {mo : Nat} {h : aH}
abbrev MX12_acts : aM := (cX12_acts, RX12, 4, (some .int), false)
def X12_acts_x40 (l : Launch) (n0 S0 : Nat) (mo : Nat) (h : aH) (v1 : Int32) (s : RS) : Int32 → Option Value → aH → Prop := fun (x : Int32) r h' => aEv l 8 MX12_acts n0 S0 65 [(0, .ref mo), (1, .int v1), (2, .int x)] [] (rH mo h s) r h'
def X12_acts_b40 (v1 : Int32) (v2 : Int32) (v3 : Int32) (s : RS) : Option ((Int32 × Int32) ⊕ Int32) :=
  if v1 ≤ v3 then
    some (.inr v2)
  else
    g_in ((119 : Int32) + v3) 1800 (
    thn (v2 ||| ((1 : Int32) <<< ((s.2.2.1 4 ((119 : Int32) + v3).toNatClampNeg) &&& 31))) fun x4 =>
    thn (v3 + 1) fun x5 =>
    some (.inl (x4, x5)))
theorem X12_acts_b40_ok (hh : mo + 18 ≤ h.2.1) (v1 : Int32) (v2 : Int32) (v3 : Int32) (s : RS) : aS l 8 MX12_acts n0 S0 (a_LΦ (X12_acts_x40 l n0 S0 mo h v1 s) l 8 MX12_acts n0 S0 40 (fun (q : Int32 × Int32) => [(0, .ref mo), (1, .int v1), (2, .int q.1), (3, .int q.2)]) (fun _ => []) (fun (q : Int32 × Int32) => rH mo h s)) 40 [(0, .ref mo), (1, .int v1), (2, .int v2), (3, .int v3)] [] (rH mo h s) (X12_acts_b40 v1 v2 v3 s) := by
  unfold X12_acts_b40
  refine s_iload_n (pc := 40) 3 dX12_acts_40 rfl ?_
  refine s_iload_n (pc := 41) 1 dX12_acts_41 rfl ?_
  refine s_icmp_ge (tgt := 65) (pc := 42) dX12_acts_42 (by decide) (fun _ => ?_) (fun _ => ?_)
  · refine s_sub [0, 1, 2] rfl ?_
    exact s_ev (fun _ _ q => q)
  · refine s_iload_n (pc := 45) 2 dX12_acts_45 rfl ?_
    refine s_iconst (v := 1) (pc := 46) dX12_acts_46 (by decide) ?_
    refine s_aload_n (pc := 47) 0 dX12_acts_47 rfl ?_
    refine rg_35 hh (pc := 48) dX12_acts_48 rfl ?_
    refine s_bipush (v := 119) (pc := 51) dX12_acts_51 (by decide) ?_
    refine s_iload_n (pc := 53) 3 dX12_acts_53 rfl ?_
    refine s_iadd (pc := 54) dX12_acts_54 ?_
    refine rl_4 hh (pc := 55) dX12_acts_55 ?_
    refine s_ishl (pc := 56) dX12_acts_56 ?_
    refine s_ior (pc := 57) dX12_acts_57 ?_
    refine s_istore_nT (lv' := fun x4 => [(2, .int x4), (0, .ref mo), (1, .int v1), (3, .int v3)]) (pc := 58) dX12_acts_58 (by decide) (fun _ => rfl) (fun x4 => ?_)
    refine s_iincT (pc := 59) 3 (lv' := fun x5 => [(3, .int x5), (2, .int x4), (0, .ref mo), (1, .int v1)]) dX12_acts_59 rfl rfl (by decide) (fun _ => rfl) (fun x5 => ?_)
    refine s_goto (tgt := 40) (pc := 62) dX12_acts_62 (by decide) ?_
    refine s_sub [2, 3, 1, 0] rfl ?_
    exact s_ev (fun _ _ q => q)
def pX12_acts (s : RS) (a0 : Int32) : Option (Int32 × RS) :=
  thn (uI s 1 (0 : Int32)) fun s1 =>
  thn (uI s1 0 (0 : Int32)) fun s2 =>
  g_in (118 : Int32) 1800 (
  (pX12_isIn a0.toInt64 (0 : Int64) (((s2.2.2.1 4 (118 : Int32).toNatClampNeg) - (1 : Int32)).toInt64)).bind fun x3 =>
  if x3 = true then
    (a_loop (fun (q : Int32 × Int32) => X12_acts_b40 a0 q.1 q.2 s2) FU ((0 : Int32), (0 : Int32))).bind fun (t6 : Int32) =>
      g_in ((119 : Int32) + a0) 1800 (
      thn (s2.2.2.1 4 ((119 : Int32) + a0).toNatClampNeg) fun x7 =>
      (pX12_kind s2 (0 : Int32) x7).bind fun x8 =>
      if x8 = (4 : Int32) then
        some ((-1 : Int32), s2)
      else
        (pX12_kind s2 (0 : Int32) x7).bind fun x9 =>
        if x9 = 0 then
          (pX12_placeIn s2 (t6 ||| ((1 : Int32) <<< (x7 &&& 31))) x7).bind fun x12 =>
          some (x12.1, x12.2)
        else
          (pX12_thingOf s2 (0 : Int32) x7).bind fun x10 =>
          (pX12_placeIn s2 t6 x10).bind fun x11 =>
          some (x11.1, x11.2))
  else
    (pX12_refuse s2 (8 : Int32)).bind fun x13 =>
    some (x13.1, x13.2))
theorem pX12_acts_w (hh : mo + 18 ≤ h.2.1) (s : RS) (a0 : Int32) : aS l 8 MX12_acts n0 S0 (oΦ (fun (x : Int32 × RS) => (some (.int x.1), rH mo h x.2))) 0 [(0, .ref mo), (1, .int a0)] [] (rH mo h s) (pX12_acts s a0) := by
  unfold pX12_acts
  refine s_aload_n (pc := 0) 0 dX12_acts_0 rfl ?_
  refine s_iconst (v := 0) (pc := 1) dX12_acts_1 (by decide) ?_
  refine rp_75 hh (pc := 2) dX12_acts_2 rfl (fun s1 => ?_)
  refine s_aload_n (pc := 5) 0 dX12_acts_5 rfl ?_
  refine s_iconst (v := 0) (pc := 6) dX12_acts_6 (by decide) ?_
  refine rp_78 hh (pc := 7) dX12_acts_7 rfl (fun s2 => ?_)
  refine s_iload_n (pc := 10) 1 dX12_acts_10 rfl ?_
  refine s_i2l (pc := 11) dX12_acts_11 ?_
  refine s_lconst (v := 0) (pc := 12) dX12_acts_12 (by decide) ?_
  refine s_aload_n (pc := 13) 0 dX12_acts_13 rfl ?_
  refine rg_35 hh (pc := 14) dX12_acts_14 rfl ?_
  refine s_bipush (v := 118) (pc := 17) dX12_acts_17 (by decide) ?_
  refine rl_4 hh (pc := 19) dX12_acts_19 ?_
  refine s_iconst (v := 1) (pc := 20) dX12_acts_20 (by decide) ?_
  refine s_isub (pc := 21) dX12_acts_21 ?_
  refine s_i2l (pc := 22) dX12_acts_22 ?_
  refine s_callS (M := MX12_acts) (As := [.long a0.toInt64, .long (0 : Int64), .long ((s2.2.2.1 4 (118 : Int32).toNatClampNeg) - (1 : Int32)).toInt64]) (st := []) (Ψ := fun (x : Bool) => (some (.int (b2i x)), rH mo h s2)) cs_X12_110 (by decide) (pc := 23) dX12_acts_23 rfl (Nat.le_of_ble_eq_true rfl) (fun x hx => pX12_isIn_ok a0.toInt64 (0 : Int64) (((s2.2.2.1 4 (118 : Int32).toNatClampNeg) - (1 : Int32)).toInt64) x hx) rfl (fun x3 _ => ?_)
  refine s_if_neB (tgt := 36) (pc := 26) dX12_acts_26 (by decide) (fun _ => ?_) (fun _ => ?_)
  · refine s_iconst (v := 0) (pc := 36) dX12_acts_36 (by decide) ?_
    refine s_istore_n (lv' := [(2, .int 0), (0, .ref mo), (1, .int a0)]) (pc := 37) dX12_acts_37 (by decide) rfl ?_
    refine s_iconst (v := 0) (pc := 38) dX12_acts_38 (by decide) ?_
    refine s_istore_n (lv' := [(3, .int 0), (2, .int 0), (0, .ref mo), (1, .int a0)]) (pc := 39) dX12_acts_39 (by decide) rfl ?_
    refine s_bind (Ψ := X12_acts_x40 l n0 S0 mo h a0 s2) ?_ ?_
    · refine s_sub [2, 3, 1, 0] rfl ?_
      exact s_loop (lvf := fun (q : Int32 × Int32) => [(0, .ref mo), (1, .int a0), (2, .int q.1), (3, .int q.2)]) (stf := fun _ => []) (hf := fun (q : Int32 × Int32) => rH mo h s2) (fun q => X12_acts_b40_ok hh a0 q.1 q.2 s2) FU ((0 : Int32), (0 : Int32))
    · intro t6 z r h' hz hr
      refine (?_ : aS l 8 MX12_acts n0 S0 (oΦ (fun (x : Int32 × RS) => (some (.int x.1), rH mo h x.2))) 65 [(0, .ref mo), (1, .int a0), (2, .int t6)] [] (rH mo h s2) _) z hz r h' hr
      refine s_aload_n (pc := 65) 0 dX12_acts_65 rfl ?_
      refine rg_35 hh (pc := 66) dX12_acts_66 rfl ?_
      refine s_bipush (v := 119) (pc := 69) dX12_acts_69 (by decide) ?_
      refine s_iload_n (pc := 71) 1 dX12_acts_71 rfl ?_
      refine s_iadd (pc := 72) dX12_acts_72 ?_
      refine rl_4 hh (pc := 73) dX12_acts_73 ?_
      refine s_istore_nT (lv' := fun x7 => [(3, .int x7), (0, .ref mo), (1, .int a0), (2, .int t6)]) (pc := 74) dX12_acts_74 (by decide) (fun _ => rfl) (fun x7 => ?_)
      refine s_aload_n (pc := 75) 1 dX12_acts_75 rfl ?_
      refine s_iconst (v := 0) (pc := 76) dX12_acts_76 (by decide) ?_
      refine s_iload_n (pc := 77) 0 dX12_acts_77 rfl ?_
      refine s_callV (M := MX12_acts) (As := [.int 0, .int x7]) (st := []) (Ψ := fun (x : Int32) => (some (.int x), rH mo h s2)) cv_X12_239 (by decide) (pc := 78) dX12_acts_78 r_0 (r_lt (k := 0) hh (by decide)) rfl (Nat.le_of_ble_eq_true rfl) (fun x hx => pX12_kind_ok hh s2 (0 : Int32) x7 x hx) rfl (fun x8 _ => ?_)
      refine s_iconst (v := 4) (pc := 81) dX12_acts_81 (by decide) ?_
      refine s_icmp_ne (tgt := 87) (pc := 82) dX12_acts_82 (by decide) (fun _ => ?_) (fun _ => ?_)
      · refine s_iconst (v := (-1)) (pc := 85) dX12_acts_85 (by decide) ?_
        exact s_iret (pc := 86) dX12_acts_86 rfl (fun _ _ q => q)
      · refine s_aload_n (pc := 87) 1 dX12_acts_87 rfl ?_
        refine s_iconst (v := 0) (pc := 88) dX12_acts_88 (by decide) ?_
        refine s_iload_n (pc := 89) 0 dX12_acts_89 rfl ?_
        refine s_callV (M := MX12_acts) (As := [.int 0, .int x7]) (st := []) (Ψ := fun (x : Int32) => (some (.int x), rH mo h s2)) cv_X12_239 (by decide) (pc := 90) dX12_acts_90 r_0 (r_lt (k := 0) hh (by decide)) rfl (Nat.le_of_ble_eq_true rfl) (fun x hx => pX12_kind_ok hh s2 (0 : Int32) x7 x hx) rfl (fun x9 _ => ?_)
        refine s_if_ne (tgt := 109) (pc := 93) dX12_acts_93 (by decide) (fun _ => ?_) (fun _ => ?_)
        · refine s_aload_n (pc := 96) 1 dX12_acts_96 rfl ?_
          refine s_iload_n (pc := 97) 3 dX12_acts_97 rfl ?_
          refine s_iconst (v := 1) (pc := 98) dX12_acts_98 (by decide) ?_
          refine s_iload_n (pc := 99) 0 dX12_acts_99 rfl ?_
          refine s_ishl (pc := 100) dX12_acts_100 ?_
          refine s_ior (pc := 101) dX12_acts_101 ?_
          refine s_iload_n (pc := 102) 0 dX12_acts_102 rfl ?_
          refine s_callV (M := MX12_acts) (As := [.int (t6 ||| ((1 : Int32) <<< (x7 &&& 31))), .int x7]) (st := []) (Ψ := fun (x : Int32 × RS) => (some (.int x.1), rH mo h x.2)) cv_X12_362 (by decide) (pc := 103) dX12_acts_103 r_0 (r_lt (k := 0) hh (by decide)) rfl (Nat.le_of_ble_eq_true rfl) (fun x hx => pX12_placeIn_ok hh s2 (t6 ||| ((1 : Int32) <<< (x7 &&& 31))) x7 x hx) rfl (fun x12 _ => ?_)
          refine s_goto (tgt := 120) (pc := 106) dX12_acts_106 (by decide) ?_
          exact s_iret (pc := 120) dX12_acts_120 rfl (fun _ _ q => q)
        · refine s_aload_n (pc := 109) 1 dX12_acts_109 rfl ?_
          refine s_iload_n (pc := 110) 3 dX12_acts_110 rfl ?_
          refine s_aload_n (pc := 111) 1 dX12_acts_111 rfl ?_
          refine s_iconst (v := 0) (pc := 112) dX12_acts_112 (by decide) ?_
          refine s_iload_n (pc := 113) 0 dX12_acts_113 rfl ?_
          refine s_callV (M := MX12_acts) (As := [.int 0, .int x7]) (st := [.int t6, .ref mo]) (Ψ := fun (x : Int32) => (some (.int x), rH mo h s2)) cv_X12_246 (by decide) (pc := 114) dX12_acts_114 r_0 (r_lt (k := 0) hh (by decide)) rfl (Nat.le_of_ble_eq_true rfl) (fun x hx => pX12_thingOf_ok hh s2 (0 : Int32) x7 x hx) rfl (fun x10 _ => ?_)
          refine s_callV (M := MX12_acts) (As := [.int t6, .int x10]) (st := []) (Ψ := fun (x : Int32 × RS) => (some (.int x.1), rH mo h x.2)) cv_X12_362 (by decide) (pc := 117) dX12_acts_117 r_0 (r_lt (k := 0) hh (by decide)) rfl (Nat.le_of_ble_eq_true rfl) (fun x hx => pX12_placeIn_ok hh s2 t6 x10 x hx) rfl (fun x11 _ => ?_)
          exact s_iret (pc := 120) dX12_acts_120 rfl (fun _ _ q => q)
  · refine s_aload_n (pc := 29) 0 dX12_acts_29 rfl ?_
    refine s_bipush (v := 8) (pc := 30) dX12_acts_30 (by decide) ?_
    refine s_callV (M := MX12_acts) (As := [.int 8]) (st := []) (Ψ := fun (x : Int32 × RS) => (some (.int x.1), rH mo h x.2)) cv_X12_299 (by decide) (pc := 32) dX12_acts_32 r_0 (r_lt (k := 0) hh (by decide)) rfl (Nat.le_of_ble_eq_true rfl) (fun x hx => pX12_refuse_ok hh s2 (8 : Int32) x hx) rfl (fun x13 _ => ?_)
    exact s_iret (pc := 35) dX12_acts_35 rfl (fun _ _ q => q)
theorem pX12_acts_ok (hh : mo + 18 ≤ h.2.1) (s : RS) (a0 : Int32) : ∀ x, pX12_acts s a0 = some x → aMet l 8 yX12_acts cX12_acts 4 (some .int) [.ref mo, .int a0] (rH mo h s) (some (.int x.1)) (rH mo h x.2) := fun x hx => a_meth (ini := false) (y := yX12_acts) (by decide +kernel) (fun q => by cases q) (fun _ => Nat.le_of_ble_eq_true rfl) (pX12_acts_w hh s a0) x hx _ _ ⟨rfl, rfl⟩
end
section
variable {l : Launch} {n0 S0 : Nat} {mo : Nat} {h : aH}
abbrev MX12_swapped : aM := (cX12_swapped, RX12, 4, (some .boolean), false)
def pX12_swapped (s : RS) (a0 : Int32) : Option (Bool × RS) :=
  g_in ((119 : Int32) + a0) 1800 (
  thn (s.2.2.1 4 ((119 : Int32) + a0).toNatClampNeg) fun x1 =>
  g_in (((119 : Int32) + a0) + (1 : Int32)) 1800 (
  thn (s.2.2.1 4 (((119 : Int32) + a0) + (1 : Int32)).toNatClampNeg) fun x2 =>
  g_in ((82 : Int32) + x2) 1800 (
  (pX12_hasIn (s.2.2.1 4 ((82 : Int32) + x2).toNatClampNeg) x1).bind fun x3 =>
  if x3 = true then
    some (false, s)
  else
    g_in ((119 : Int32) + a0) 1800 (thn (uA s 4 (upd (s.2.2.1 4) ((119 : Int32) + a0).toNatClampNeg x2)) fun s4 =>
    g_in (((119 : Int32) + a0) + (1 : Int32)) 1800 (thn (uA s4 4 (upd (s4.2.2.1 4) (((119 : Int32) + a0) + (1 : Int32)).toNatClampNeg x1)) fun s5 =>
    some (true, s5))))))
theorem pX12_swapped_w (hh : mo + 18 ≤ h.2.1) (s : RS) (a0 : Int32) : aS l 1 MX12_swapped n0 S0 (oΦ (fun (x : Bool × RS) => (some (.int (b2i x.1)), rH mo h x.2))) 0 [(0, .ref mo), (1, .int a0)] [] (rH mo h s) (pX12_swapped s a0) := by
  unfold pX12_swapped
  refine s_aload_n (pc := 0) 0 dX12_swapped_0 rfl ?_
  refine rg_35 hh (pc := 1) dX12_swapped_1 rfl ?_
  refine s_bipush (v := 119) (pc := 4) dX12_swapped_4 (by decide) ?_
  refine s_iload_n (pc := 6) 1 dX12_swapped_6 rfl ?_
  refine s_iadd (pc := 7) dX12_swapped_7 ?_
  refine rl_4 hh (pc := 8) dX12_swapped_8 ?_
  refine s_istore_nT (lv' := fun x1 => [(2, .int x1), (0, .ref mo), (1, .int a0)]) (pc := 9) dX12_swapped_9 (by decide) (fun _ => rfl) (fun x1 => ?_)
  refine s_aload_n (pc := 10) 1 dX12_swapped_10 rfl ?_
  refine rg_35 hh (pc := 11) dX12_swapped_11 rfl ?_
  refine s_bipush (v := 119) (pc := 14) dX12_swapped_14 (by decide) ?_
  refine s_iload_n (pc := 16) 2 dX12_swapped_16 rfl ?_
  refine s_iadd (pc := 17) dX12_swapped_17 ?_
  refine s_iconst (v := 1) (pc := 18) dX12_swapped_18 (by decide) ?_
  refine s_iadd (pc := 19) dX12_swapped_19 ?_
  refine rl_4 hh (pc := 20) dX12_swapped_20 ?_
  refine s_istore_nT (lv' := fun x2 => [(3, .int x2), (2, .int x1), (0, .ref mo), (1, .int a0)]) (pc := 21) dX12_swapped_21 (by decide) (fun _ => rfl) (fun x2 => ?_)
  refine s_aload_n (pc := 22) 2 dX12_swapped_22 rfl ?_
  refine rg_35 hh (pc := 23) dX12_swapped_23 rfl ?_
  refine s_bipush (v := 82) (pc := 26) dX12_swapped_26 (by decide) ?_
  refine s_iload_n (pc := 28) 0 dX12_swapped_28 rfl ?_
  refine s_iadd (pc := 29) dX12_swapped_29 ?_
  refine rl_4 hh (pc := 30) dX12_swapped_30 ?_
  refine s_iload_n (pc := 31) 1 dX12_swapped_31 rfl ?_
  refine s_callS (M := MX12_swapped) (As := [.int (s.2.2.1 4 ((82 : Int32) + x2).toNatClampNeg), .int x1]) (st := []) (Ψ := fun (x : Bool) => (some (.int (b2i x)), rH mo h s)) cs_X12_302 (by decide) (pc := 32) dX12_swapped_32 rfl (Nat.le_of_ble_eq_true rfl) (fun x hx => pX12_hasIn_ok (s.2.2.1 4 ((82 : Int32) + x2).toNatClampNeg) x1 x hx) rfl (fun x3 _ => ?_)
  refine s_if_eqB (tgt := 40) (pc := 35) dX12_swapped_35 (by decide) (fun _ => ?_) (fun _ => ?_)
  · refine s_iconst (v := 0) (pc := 38) dX12_swapped_38 (by decide) ?_
    exact s_zretB (b := false) (pc := 39) dX12_swapped_39 rfl (fun _ _ q => q)
  · refine s_aload_n (pc := 40) 2 dX12_swapped_40 rfl ?_
    refine rg_35 hh (pc := 41) dX12_swapped_41 rfl ?_
    refine s_bipush (v := 119) (pc := 44) dX12_swapped_44 (by decide) ?_
    refine s_iload_n (pc := 46) 3 dX12_swapped_46 rfl ?_
    refine s_iadd (pc := 47) dX12_swapped_47 ?_
    refine s_iload_n (pc := 48) 0 dX12_swapped_48 rfl ?_
    refine rs_4 hh (pc := 49) dX12_swapped_49 (fun s4 => ?_)
    refine s_aload_n (pc := 50) 2 dX12_swapped_50 rfl ?_
    refine rg_35 hh (pc := 51) dX12_swapped_51 rfl ?_
    refine s_bipush (v := 119) (pc := 54) dX12_swapped_54 (by decide) ?_
    refine s_iload_n (pc := 56) 3 dX12_swapped_56 rfl ?_
    refine s_iadd (pc := 57) dX12_swapped_57 ?_
    refine s_iconst (v := 1) (pc := 58) dX12_swapped_58 (by decide) ?_
    refine s_iadd (pc := 59) dX12_swapped_59 ?_
    refine s_iload_n (pc := 60) 1 dX12_swapped_60 rfl ?_
    refine rs_4 hh (pc := 61) dX12_swapped_61 (fun s5 => ?_)
    refine s_iconst (v := 1) (pc := 62) dX12_swapped_62 (by decide) ?_
    exact s_zretB (b := true) (pc := 63) dX12_swapped_63 rfl (fun _ _ q => q)
theorem pX12_swapped_ok (hh : mo + 18 ≤ h.2.1) (s : RS) (a0 : Int32) : ∀ x, pX12_swapped s a0 = some x → aMet l 1 yX12_swapped cX12_swapped 4 (some .boolean) [.ref mo, .int a0] (rH mo h s) (some (.int (b2i x.1))) (rH mo h x.2) := fun x hx => a_meth (ini := false) (y := yX12_swapped) (by decide +kernel) (fun q => by cases q) (fun _ => Nat.le_of_ble_eq_true rfl) (pX12_swapped_w hh s a0) x hx _ _ ⟨rfl, rfl⟩
end
section
variable {l : Launch} {n0 S0 : Nat} {mo : Nat} {h : aH}
abbrev MX12_swap : aM := (cX12_swap, RX12, 2, (some .boolean), false)
def pX12_swap (s : RS) (a0 : Int32) : Option (Bool × RS) :=
  thn (uI s 1 (0 : Int32)) fun s1 =>
  thn (uI s1 0 (0 : Int32)) fun s2 =>
  g_in (118 : Int32) 1800 (
  (pX12_isIn a0.toInt64 (0 : Int64) (((s2.2.2.1 4 (118 : Int32).toNatClampNeg) - (2 : Int32)).toInt64)).bind fun x3 =>
  if x3 = true then
    (pX12_swapped s2 a0).bind fun x4 =>
    if x4.1 = true then
      some (true, x4.2)
    else
      (pX12_no x4.2 (9 : Int32)).bind fun x5 =>
      if x5.1 = true then
        some (true, x5.2)
      else
        some (false, x5.2)
  else
    (pX12_no s2 (8 : Int32)).bind fun x6 =>
    some (x6.1, x6.2))
theorem pX12_swap_w (hh : mo + 18 ≤ h.2.1) (s : RS) (a0 : Int32) : aS l 2 MX12_swap n0 S0 (oΦ (fun (x : Bool × RS) => (some (.int (b2i x.1)), rH mo h x.2))) 0 [(0, .ref mo), (1, .int a0)] [] (rH mo h s) (pX12_swap s a0) := by
  unfold pX12_swap
  refine s_aload_n (pc := 0) 0 dX12_swap_0 rfl ?_
  refine s_iconst (v := 0) (pc := 1) dX12_swap_1 (by decide) ?_
  refine rp_75 hh (pc := 2) dX12_swap_2 rfl (fun s1 => ?_)
  refine s_aload_n (pc := 5) 0 dX12_swap_5 rfl ?_
  refine s_iconst (v := 0) (pc := 6) dX12_swap_6 (by decide) ?_
  refine rp_78 hh (pc := 7) dX12_swap_7 rfl (fun s2 => ?_)
  refine s_iload_n (pc := 10) 1 dX12_swap_10 rfl ?_
  refine s_i2l (pc := 11) dX12_swap_11 ?_
  refine s_lconst (v := 0) (pc := 12) dX12_swap_12 (by decide) ?_
  refine s_aload_n (pc := 13) 0 dX12_swap_13 rfl ?_
  refine rg_35 hh (pc := 14) dX12_swap_14 rfl ?_
  refine s_bipush (v := 118) (pc := 17) dX12_swap_17 (by decide) ?_
  refine rl_4 hh (pc := 19) dX12_swap_19 ?_
  refine s_iconst (v := 2) (pc := 20) dX12_swap_20 (by decide) ?_
  refine s_isub (pc := 21) dX12_swap_21 ?_
  refine s_i2l (pc := 22) dX12_swap_22 ?_
  refine s_callS (M := MX12_swap) (As := [.long a0.toInt64, .long (0 : Int64), .long ((s2.2.2.1 4 (118 : Int32).toNatClampNeg) - (2 : Int32)).toInt64]) (st := []) (Ψ := fun (x : Bool) => (some (.int (b2i x)), rH mo h s2)) cs_X12_110 (by decide) (pc := 23) dX12_swap_23 rfl (Nat.le_of_ble_eq_true rfl) (fun x hx => pX12_isIn_ok a0.toInt64 (0 : Int64) (((s2.2.2.1 4 (118 : Int32).toNatClampNeg) - (2 : Int32)).toInt64) x hx) rfl (fun x3 _ => ?_)
  refine s_if_neB (tgt := 36) (pc := 26) dX12_swap_26 (by decide) (fun _ => ?_) (fun _ => ?_)
  · refine s_aload_n (pc := 36) 0 dX12_swap_36 rfl ?_
    refine s_iload_n (pc := 37) 1 dX12_swap_37 rfl ?_
    refine s_callV (M := MX12_swap) (As := [.int a0]) (st := []) (Ψ := fun (x : Bool × RS) => (some (.int (b2i x.1)), rH mo h x.2)) cv_X12_400 (by decide) (pc := 38) dX12_swap_38 r_0 (r_lt (k := 0) hh (by decide)) rfl (Nat.le_of_ble_eq_true rfl) (fun x hx => pX12_swapped_ok hh s2 a0 x hx) rfl (fun x4 _ => ?_)
    refine s_if_neB (tgt := 53) (pc := 41) dX12_swap_41 (by decide) (fun _ => ?_) (fun _ => ?_)
    · refine s_iconst (v := 1) (pc := 53) dX12_swap_53 (by decide) ?_
      refine s_goto (tgt := 58) (pc := 54) dX12_swap_54 (by decide) ?_
      exact s_zretB (b := true) (pc := 58) dX12_swap_58 rfl (fun _ _ q => q)
    · refine s_aload_n (pc := 44) 0 dX12_swap_44 rfl ?_
      refine s_bipush (v := 9) (pc := 45) dX12_swap_45 (by decide) ?_
      refine s_callV (M := MX12_swap) (As := [.int 9]) (st := []) (Ψ := fun (x : Bool × RS) => (some (.int (b2i x.1)), rH mo h x.2)) cv_X12_90 (by decide) (pc := 47) dX12_swap_47 r_0 (r_lt (k := 0) hh (by decide)) rfl (Nat.le_of_ble_eq_true rfl) (fun x hx => pX12_no_ok hh x4.2 (9 : Int32) x hx) rfl (fun x5 _ => ?_)
      refine s_if_eqB (tgt := 57) (pc := 50) dX12_swap_50 (by decide) (fun _ => ?_) (fun _ => ?_)
      · refine s_iconst (v := 1) (pc := 53) dX12_swap_53 (by decide) ?_
        refine s_goto (tgt := 58) (pc := 54) dX12_swap_54 (by decide) ?_
        exact s_zretB (b := true) (pc := 58) dX12_swap_58 rfl (fun _ _ q => q)
      · refine s_iconst (v := 0) (pc := 57) dX12_swap_57 (by decide) ?_
        exact s_zretB (b := false) (pc := 58) dX12_swap_58 rfl (fun _ _ q => q)
  · refine s_aload_n (pc := 29) 0 dX12_swap_29 rfl ?_
    refine s_bipush (v := 8) (pc := 30) dX12_swap_30 (by decide) ?_
    refine s_callV (M := MX12_swap) (As := [.int 8]) (st := []) (Ψ := fun (x : Bool × RS) => (some (.int (b2i x.1)), rH mo h x.2)) cv_X12_90 (by decide) (pc := 32) dX12_swap_32 r_0 (r_lt (k := 0) hh (by decide)) rfl (Nat.le_of_ble_eq_true rfl) (fun x hx => pX12_no_ok hh s2 (8 : Int32) x hx) rfl (fun x6 _ => ?_)
    exact s_zretB (b := x6.1) (pc := 35) dX12_swap_35 rfl (fun _ _ q => q)
theorem pX12_swap_ok (hh : mo + 18 ≤ h.2.1) (s : RS) (a0 : Int32) : ∀ x, pX12_swap s a0 = some x → aMet l 2 yX12_swap cX12_swap 2 (some .boolean) [.ref mo, .int a0] (rH mo h s) (some (.int (b2i x.1))) (rH mo h x.2) := fun x hx => a_meth (ini := false) (y := yX12_swap) (by decide +kernel) (fun q => by cases q) (fun _ => Nat.le_of_ble_eq_true rfl) (pX12_swap_w hh s a0) x hx _ _ ⟨rfl, rfl⟩
end
section
variable {l : Launch} {n0 S0 : Nat} {mo : Nat} {h : aH}
abbrev MX12_forward : aM := (cX12_forward, RX12, 4, (some .int), false)
def X12_forward_x28 (l : Launch) (n0 S0 : Nat) (mo : Nat) (h : aH) (v1 : Int32) (s : RS) : Int32 → Option Value → aH → Prop := fun (x : Int32) r h' => aEv l 2 MX12_forward n0 S0 60 [(0, .ref mo), (2, .int x)] [] (rH mo h s) r h'
def X12_forward_j54 (v1 : Int32) (v2 : Int32) (v3 : Int32) (s : RS) : Option ((Int32 × Int32) ⊕ Int32) :=
  thn (v3 + 1) fun x4 =>
  some (.inl (v2, x4))
theorem X12_forward_j54_ok (hh : mo + 18 ≤ h.2.1) (v1 : Int32) (v2 : Int32) (v3 : Int32) (s : RS) : aS l 2 MX12_forward n0 S0 (a_LΦ (X12_forward_x28 l n0 S0 mo h v1 s) l 2 MX12_forward n0 S0 28 (fun (q : Int32 × Int32) => [(0, .ref mo), (1, .int v1), (2, .int q.1), (3, .int q.2)]) (fun _ => []) (fun (q : Int32 × Int32) => rH mo h s)) 54 [(0, .ref mo), (1, .int v1), (2, .int v2), (3, .int v3)] [] (rH mo h s) (X12_forward_j54 v1 v2 v3 s) := by
  unfold X12_forward_j54
  refine s_iincT (pc := 54) 3 (lv' := fun x4 => [(3, .int x4), (0, .ref mo), (1, .int v1), (2, .int v2)]) dX12_forward_54 rfl rfl (by decide) (fun _ => rfl) (fun x4 => ?_)
  refine s_goto (tgt := 28) (pc := 57) dX12_forward_57 (by decide) ?_
  refine s_sub [1, 2, 3, 0] rfl ?_
  exact s_ev (fun _ _ q => q)
def X12_forward_b28 (v1 : Int32) (v2 : Int32) (v3 : Int32) (s : RS) : Option ((Int32 × Int32) ⊕ Int32) :=
  g_in (118 : Int32) 1800 (
  if (s.2.2.1 4 (118 : Int32).toNatClampNeg) ≤ v3 then
    some (.inr v2)
  else
    g_in ((119 : Int32) + v3) 1800 (
    if (s.2.2.1 4 ((119 : Int32) + v3).toNatClampNeg) = v1 then
      X12_forward_j54 v1 v3 v3 s
    else
      X12_forward_j54 v1 v2 v3 s))
theorem X12_forward_b28_ok (hh : mo + 18 ≤ h.2.1) (v1 : Int32) (v2 : Int32) (v3 : Int32) (s : RS) : aS l 2 MX12_forward n0 S0 (a_LΦ (X12_forward_x28 l n0 S0 mo h v1 s) l 2 MX12_forward n0 S0 28 (fun (q : Int32 × Int32) => [(0, .ref mo), (1, .int v1), (2, .int q.1), (3, .int q.2)]) (fun _ => []) (fun (q : Int32 × Int32) => rH mo h s)) 28 [(0, .ref mo), (1, .int v1), (2, .int v2), (3, .int v3)] [] (rH mo h s) (X12_forward_b28 v1 v2 v3 s) := by
  unfold X12_forward_b28
  refine s_iload_n (pc := 28) 3 dX12_forward_28 rfl ?_
  refine s_aload_n (pc := 29) 0 dX12_forward_29 rfl ?_
  refine rg_35 hh (pc := 30) dX12_forward_30 rfl ?_
  refine s_bipush (v := 118) (pc := 33) dX12_forward_33 (by decide) ?_
  refine rl_4 hh (pc := 35) dX12_forward_35 ?_
  refine s_icmp_ge (tgt := 60) (pc := 36) dX12_forward_36 (by decide) (fun _ => ?_) (fun _ => ?_)
  · refine s_sub [0, 2] rfl ?_
    exact s_ev (fun _ _ q => q)
  · refine s_aload_n (pc := 39) 0 dX12_forward_39 rfl ?_
    refine rg_35 hh (pc := 40) dX12_forward_40 rfl ?_
    refine s_bipush (v := 119) (pc := 43) dX12_forward_43 (by decide) ?_
    refine s_iload_n (pc := 45) 3 dX12_forward_45 rfl ?_
    refine s_iadd (pc := 46) dX12_forward_46 ?_
    refine rl_4 hh (pc := 47) dX12_forward_47 ?_
    refine s_iload_n (pc := 48) 1 dX12_forward_48 rfl ?_
    refine s_icmp_ne (tgt := 54) (pc := 49) dX12_forward_49 (by decide) (fun _ => ?_) (fun _ => ?_)
    · refine s_iload_n (pc := 52) 3 dX12_forward_52 rfl ?_
      refine s_istore_n (lv' := [(2, .int v3), (0, .ref mo), (1, .int v1), (3, .int v3)]) (pc := 53) dX12_forward_53 (by decide) rfl ?_
      refine s_sub [1, 2, 0, 3] rfl ?_
      exact X12_forward_j54_ok hh v1 v3 v3 s
    · exact X12_forward_j54_ok hh v1 v2 v3 s
def X12_forward_x73 (l : Launch) (n0 S0 : Nat) (mo : Nat) (h : aH) : (Int32 × RS) → Option Value → aH → Prop := fun (x : Int32 × RS) r h' => aEv l 2 MX12_forward n0 S0 99 [(2, .int x.1)] [] (rH mo h x.2) r h'
def X12_forward_b73 (v2 : Int32) (v3 : Bool) (s : RS) : Option ((Int32 × Bool × RS) ⊕ (Int32 × RS)) :=
  if v2 ≤ 0 then
    some (.inr (v2, s))
  else
    if v3 = true then
      (pX12_swapped s (v2 - (1 : Int32))).bind fun x6 =>
      if x6.1 = true then
        thn (v2 + (-1)) fun x7 =>
        some (.inl (x7, x6.1, x6.2))
      else
        some (.inl (v2, x6.1, x6.2))
    else
      some (.inr (v2, s))
theorem X12_forward_b73_ok (hh : mo + 18 ≤ h.2.1) (v2 : Int32) (v3 : Bool) (s : RS) : aS l 2 MX12_forward n0 S0 (a_LΦ (X12_forward_x73 l n0 S0 mo h) l 2 MX12_forward n0 S0 73 (fun (q : Int32 × Bool × RS) => [(0, .ref mo), (2, .int q.1), (3, .int (b2i q.2.1))]) (fun _ => []) (fun (q : Int32 × Bool × RS) => rH mo h q.2.2)) 73 [(0, .ref mo), (2, .int v2), (3, .int (b2i v3))] [] (rH mo h s) (X12_forward_b73 v2 v3 s) := by
  unfold X12_forward_b73
  refine s_iload_n (pc := 73) 1 dX12_forward_73 rfl ?_
  refine s_if_le (tgt := 99) (pc := 74) dX12_forward_74 (by decide) (fun _ => ?_) (fun _ => ?_)
  · refine s_sub [1] rfl ?_
    exact s_ev (fun _ _ q => q)
  · refine s_iload_n (pc := 77) 2 dX12_forward_77 rfl ?_
    refine s_if_eqB (tgt := 99) (pc := 78) dX12_forward_78 (by decide) (fun _ => ?_) (fun _ => ?_)
    · refine s_aload_n (pc := 81) 0 dX12_forward_81 rfl ?_
      refine s_iload_n (pc := 82) 1 dX12_forward_82 rfl ?_
      refine s_iconst (v := 1) (pc := 83) dX12_forward_83 (by decide) ?_
      refine s_isub (pc := 84) dX12_forward_84 ?_
      refine s_callV (M := MX12_forward) (As := [.int (v2 - (1 : Int32))]) (st := []) (Ψ := fun (x : Bool × RS) => (some (.int (b2i x.1)), rH mo h x.2)) cv_X12_400 (by decide) (pc := 85) dX12_forward_85 r_0 (r_lt (k := 0) hh (by decide)) rfl (Nat.le_of_ble_eq_true rfl) (fun x hx => pX12_swapped_ok hh s (v2 - (1 : Int32)) x hx) rfl (fun x6 _ => ?_)
      refine s_istore_n (lv' := [(3, .int (b2i x6.1)), (0, .ref mo), (2, .int v2)]) (pc := 88) dX12_forward_88 (by decide) rfl ?_
      refine s_iload_n (pc := 89) 0 dX12_forward_89 rfl ?_
      refine s_if_eqB (tgt := 73) (pc := 90) dX12_forward_90 (by decide) (fun _ => ?_) (fun _ => ?_)
      · refine s_iincT (pc := 93) 2 (lv' := fun x7 => [(2, .int x7), (3, .int (b2i x6.1)), (0, .ref mo)]) dX12_forward_93 rfl rfl (by decide) (fun _ => rfl) (fun x7 => ?_)
        refine s_goto (tgt := 73) (pc := 96) dX12_forward_96 (by decide) ?_
        refine s_sub [2, 0, 1] rfl ?_
        exact s_ev (fun _ _ q => q)
      · refine s_sub [1, 2, 0] rfl ?_
        exact s_ev (fun _ _ q => q)
    · refine s_sub [1] rfl ?_
      exact s_ev (fun _ _ q => q)
def pX12_forward (s : RS) (a0 : Int32) : Option (Int32 × RS) :=
  thn (uI s 1 (0 : Int32)) fun s1 =>
  thn (uI s1 0 (0 : Int32)) fun s2 =>
  (pX12_isChange s2 a0).bind fun x3 =>
  if x3 = true then
    (a_loop (fun (q : Int32 × Int32) => X12_forward_b28 a0 q.1 q.2 s2) FU ((-1 : Int32), (0 : Int32))).bind fun (t5 : Int32) =>
      if 0 ≤ t5 then
        (a_loop (fun (q : Int32 × Bool × RS) => X12_forward_b73 q.1 q.2.1 q.2.2) FU (t5, true, s2)).bind fun (t8 : Int32 × RS) =>
          some (t8.1, t8.2)
      else
        (pX12_refuse s2 (8 : Int32)).bind fun x9 =>
        some (x9.1, x9.2)
  else
    (pX12_refuse s2 (2 : Int32)).bind fun x10 =>
    some (x10.1, x10.2)
theorem pX12_forward_w (hh : mo + 18 ≤ h.2.1) (s : RS) (a0 : Int32) : aS l 2 MX12_forward n0 S0 (oΦ (fun (x : Int32 × RS) => (some (.int x.1), rH mo h x.2))) 0 [(0, .ref mo), (1, .int a0)] [] (rH mo h s) (pX12_forward s a0) := by
  unfold pX12_forward
  refine s_aload_n (pc := 0) 0 dX12_forward_0 rfl ?_
  refine s_iconst (v := 0) (pc := 1) dX12_forward_1 (by decide) ?_
  refine rp_75 hh (pc := 2) dX12_forward_2 rfl (fun s1 => ?_)
  refine s_aload_n (pc := 5) 0 dX12_forward_5 rfl ?_
  refine s_iconst (v := 0) (pc := 6) dX12_forward_6 (by decide) ?_
  refine rp_78 hh (pc := 7) dX12_forward_7 rfl (fun s2 => ?_)
  refine s_aload_n (pc := 10) 0 dX12_forward_10 rfl ?_
  refine s_iload_n (pc := 11) 1 dX12_forward_11 rfl ?_
  refine s_callV (M := MX12_forward) (As := [.int a0]) (st := []) (Ψ := fun (x : Bool) => (some (.int (b2i x)), rH mo h s2)) cv_X12_311 (by decide) (pc := 12) dX12_forward_12 r_0 (r_lt (k := 0) hh (by decide)) rfl (Nat.le_of_ble_eq_true rfl) (fun x hx => pX12_isChange_ok hh s2 a0 x hx) rfl (fun x3 _ => ?_)
  refine s_if_neB (tgt := 24) (pc := 15) dX12_forward_15 (by decide) (fun _ => ?_) (fun _ => ?_)
  · refine s_iconst (v := (-1)) (pc := 24) dX12_forward_24 (by decide) ?_
    refine s_istore_n (lv' := [(2, .int (-1)), (0, .ref mo), (1, .int a0)]) (pc := 25) dX12_forward_25 (by decide) rfl ?_
    refine s_iconst (v := 0) (pc := 26) dX12_forward_26 (by decide) ?_
    refine s_istore_n (lv' := [(3, .int 0), (2, .int (-1)), (0, .ref mo), (1, .int a0)]) (pc := 27) dX12_forward_27 (by decide) rfl ?_
    refine s_bind (Ψ := X12_forward_x28 l n0 S0 mo h a0 s2) ?_ ?_
    · refine s_sub [2, 3, 1, 0] rfl ?_
      exact s_loop (lvf := fun (q : Int32 × Int32) => [(0, .ref mo), (1, .int a0), (2, .int q.1), (3, .int q.2)]) (stf := fun _ => []) (hf := fun (q : Int32 × Int32) => rH mo h s2) (fun q => X12_forward_b28_ok hh a0 q.1 q.2 s2) FU ((-1 : Int32), (0 : Int32))
    · intro t5 z r h' hz hr
      refine (?_ : aS l 2 MX12_forward n0 S0 (oΦ (fun (x : Int32 × RS) => (some (.int x.1), rH mo h x.2))) 60 [(0, .ref mo), (2, .int t5)] [] (rH mo h s2) _) z hz r h' hr
      refine s_iload_n (pc := 60) 1 dX12_forward_60 rfl ?_
      refine s_if_ge (tgt := 71) (pc := 61) dX12_forward_61 (by decide) (fun _ => ?_) (fun _ => ?_)
      · refine s_iconst (v := 1) (pc := 71) dX12_forward_71 (by decide) ?_
        refine s_istore_n (lv' := [(3, .int 1), (0, .ref mo), (2, .int t5)]) (pc := 72) dX12_forward_72 (by decide) rfl ?_
        refine s_bind (Ψ := X12_forward_x73 l n0 S0 mo h) ?_ ?_
        · refine s_sub [1, 2, 0] rfl ?_
          exact s_loop (lvf := fun (q : Int32 × Bool × RS) => [(0, .ref mo), (2, .int q.1), (3, .int (b2i q.2.1))]) (stf := fun _ => []) (hf := fun (q : Int32 × Bool × RS) => rH mo h q.2.2) (fun q => X12_forward_b73_ok hh q.1 q.2.1 q.2.2) FU (t5, true, s2)
        · intro t8 z r h' hz hr
          refine (?_ : aS l 2 MX12_forward n0 S0 (oΦ (fun (x : Int32 × RS) => (some (.int x.1), rH mo h x.2))) 99 [(2, .int t8.1)] [] (rH mo h t8.2) _) z hz r h' hr
          refine s_iload_n (pc := 99) 0 dX12_forward_99 rfl ?_
          exact s_iret (pc := 100) dX12_forward_100 rfl (fun _ _ q => q)
      · refine s_aload_n (pc := 64) 0 dX12_forward_64 rfl ?_
        refine s_bipush (v := 8) (pc := 65) dX12_forward_65 (by decide) ?_
        refine s_callV (M := MX12_forward) (As := [.int 8]) (st := []) (Ψ := fun (x : Int32 × RS) => (some (.int x.1), rH mo h x.2)) cv_X12_299 (by decide) (pc := 67) dX12_forward_67 r_0 (r_lt (k := 0) hh (by decide)) rfl (Nat.le_of_ble_eq_true rfl) (fun x hx => pX12_refuse_ok hh s2 (8 : Int32) x hx) rfl (fun x9 _ => ?_)
        exact s_iret (pc := 70) dX12_forward_70 rfl (fun _ _ q => q)
  · refine s_aload_n (pc := 18) 0 dX12_forward_18 rfl ?_
    refine s_iconst (v := 2) (pc := 19) dX12_forward_19 (by decide) ?_
    refine s_callV (M := MX12_forward) (As := [.int 2]) (st := []) (Ψ := fun (x : Int32 × RS) => (some (.int x.1), rH mo h x.2)) cv_X12_299 (by decide) (pc := 20) dX12_forward_20 r_0 (r_lt (k := 0) hh (by decide)) rfl (Nat.le_of_ble_eq_true rfl) (fun x hx => pX12_refuse_ok hh s2 (2 : Int32) x hx) rfl (fun x10 _ => ?_)
    exact s_iret (pc := 23) dX12_forward_23 rfl (fun _ _ q => q)
theorem pX12_forward_ok (hh : mo + 18 ≤ h.2.1) (s : RS) (a0 : Int32) : ∀ x, pX12_forward s a0 = some x → aMet l 2 yX12_forward cX12_forward 4 (some .int) [.ref mo, .int a0] (rH mo h s) (some (.int x.1)) (rH mo h x.2) := fun x hx => a_meth (ini := false) (y := yX12_forward) (by decide +kernel) (fun q => by cases q) (fun _ => Nat.le_of_ble_eq_true rfl) (pX12_forward_w hh s a0) x hx _ _ ⟨rfl, rfl⟩
end
section
variable {l : Launch} {n0 S0 : Nat} {mo : Nat} {h : aH}
abbrev MX12_swaps : aM := (cX12_swaps, RX12, 7, (some .int), false)
def X12_swaps_x19 (l : Launch) (n0 S0 : Nat) (mo : Nat) (h : aH) (v1 : Int32) : RS → Option Value → aH → Prop := fun (x : RS) r h' => aEv l 1 MX12_swaps n0 S0 81 [(0, .ref mo)] [] (rH mo h x) r h'
def X12_swaps_x27 (l : Launch) (n0 S0 : Nat) (mo : Nat) (h : aH) (v1 : Int32) (v2 : Int32) (v3 : Int32) (s : RS) : Int32 → Option Value → aH → Prop := fun (x : Int32) r h' => aEv l 1 MX12_swaps n0 S0 60 [(0, .ref mo), (1, .int v1), (2, .int v2), (3, .int v3), (4, .int x)] [] (rH mo h s) r h'
def X12_swaps_j54 (v1 : Int32) (v2 : Int32) (v3 : Int32) (v4 : Int32) (s : RS) : Option (Int32 ⊕ Int32) :=
  thn (v4 + 1) fun x5 =>
  some (.inl x5)
theorem X12_swaps_j54_ok (hh : mo + 18 ≤ h.2.1) (v1 : Int32) (v2 : Int32) (v3 : Int32) (v4 : Int32) (s : RS) : aS l 1 MX12_swaps n0 S0 (a_LΦ (X12_swaps_x27 l n0 S0 mo h v1 v2 v3 s) l 1 MX12_swaps n0 S0 27 (fun (q : Int32) => [(0, .ref mo), (1, .int v1), (2, .int v2), (3, .int v3), (4, .int q)]) (fun _ => []) (fun (q : Int32) => rH mo h s)) 54 [(0, .ref mo), (1, .int v1), (2, .int v2), (3, .int v3), (4, .int v4)] [] (rH mo h s) (X12_swaps_j54 v1 v2 v3 v4 s) := by
  unfold X12_swaps_j54
  refine s_iincT (pc := 54) 4 (lv' := fun x5 => [(4, .int x5), (0, .ref mo), (1, .int v1), (2, .int v2), (3, .int v3)]) dX12_swaps_54 rfl rfl (by decide) (fun _ => rfl) (fun x5 => ?_)
  refine s_goto (tgt := 27) (pc := 57) dX12_swaps_57 (by decide) ?_
  refine s_sub [1, 2, 3, 4, 0] rfl ?_
  exact s_ev (fun _ _ q => q)
def X12_swaps_b27 (v1 : Int32) (v2 : Int32) (v3 : Int32) (v4 : Int32) (s : RS) : Option (Int32 ⊕ Int32) :=
  (pX12_hasIn (v1 &&& (v2 ^^^ (-1 : Int32))) v4).bind fun x4 =>
  if x4 = true then
    (pX12_hangsOn s (0 : Int32) v4).bind fun x6 =>
    if (x6 &&& (v2 ^^^ (-1 : Int32))) = 0 then
      some (.inr v4)
    else
      X12_swaps_j54 v1 v2 v3 v4 s
  else
    X12_swaps_j54 v1 v2 v3 v4 s
theorem X12_swaps_b27_ok (hh : mo + 18 ≤ h.2.1) (v1 : Int32) (v2 : Int32) (v3 : Int32) (v4 : Int32) (s : RS) : aS l 1 MX12_swaps n0 S0 (a_LΦ (X12_swaps_x27 l n0 S0 mo h v1 v2 v3 s) l 1 MX12_swaps n0 S0 27 (fun (q : Int32) => [(0, .ref mo), (1, .int v1), (2, .int v2), (3, .int v3), (4, .int q)]) (fun _ => []) (fun (q : Int32) => rH mo h s)) 27 [(0, .ref mo), (1, .int v1), (2, .int v2), (3, .int v3), (4, .int v4)] [] (rH mo h s) (X12_swaps_b27 v1 v2 v3 v4 s) := by
  unfold X12_swaps_b27
  refine s_iload_n (pc := 27) 1 dX12_swaps_27 rfl ?_
  refine s_iload_n (pc := 28) 2 dX12_swaps_28 rfl ?_
  refine s_iconst (v := (-1)) (pc := 29) dX12_swaps_29 (by decide) ?_
  refine s_ixor (pc := 30) dX12_swaps_30 ?_
  refine s_iand (pc := 31) dX12_swaps_31 ?_
  refine s_iload (pc := 32) 4 dX12_swaps_32 rfl ?_
  refine s_callS (M := MX12_swaps) (As := [.int (v1 &&& (v2 ^^^ (-1 : Int32))), .int v4]) (st := []) (Ψ := fun (x : Bool) => (some (.int (b2i x)), rH mo h s)) cs_X12_302 (by decide) (pc := 34) dX12_swaps_34 rfl (Nat.le_of_ble_eq_true rfl) (fun x hx => pX12_hasIn_ok (v1 &&& (v2 ^^^ (-1 : Int32))) v4 x hx) rfl (fun x4 _ => ?_)
  refine s_if_eqB (tgt := 54) (pc := 37) dX12_swaps_37 (by decide) (fun _ => ?_) (fun _ => ?_)
  · refine s_aload_n (pc := 40) 0 dX12_swaps_40 rfl ?_
    refine s_iconst (v := 0) (pc := 41) dX12_swaps_41 (by decide) ?_
    refine s_iload (pc := 42) 4 dX12_swaps_42 rfl ?_
    refine s_callV (M := MX12_swaps) (As := [.int 0, .int v4]) (st := []) (Ψ := fun (x : Int32) => (some (.int x), rH mo h s)) cv_X12_249 (by decide) (pc := 44) dX12_swaps_44 r_0 (r_lt (k := 0) hh (by decide)) rfl (Nat.le_of_ble_eq_true rfl) (fun x hx => pX12_hangsOn_ok hh s (0 : Int32) v4 x hx) rfl (fun x6 _ => ?_)
    refine s_iload_n (pc := 47) 2 dX12_swaps_47 rfl ?_
    refine s_iconst (v := (-1)) (pc := 48) dX12_swaps_48 (by decide) ?_
    refine s_ixor (pc := 49) dX12_swaps_49 ?_
    refine s_iand (pc := 50) dX12_swaps_50 ?_
    refine s_if_eq (tgt := 60) (pc := 51) dX12_swaps_51 (by decide) (fun _ => ?_) (fun _ => ?_)
    · exact s_ev (fun _ _ q => q)
    · exact X12_swaps_j54_ok hh v1 v2 v3 v4 s
  · exact X12_swaps_j54_ok hh v1 v2 v3 v4 s
def X12_swaps_b19 (v1 : Int32) (v2 : Int32) (v3 : Int32) (s : RS) : Option ((Int32 × Int32 × RS) ⊕ RS) :=
  if v2 = v1 then
    some (.inr s)
  else
    (a_loop (fun (q : Int32) => X12_swaps_b27 v1 v2 v3 q s) FU (0 : Int32)).bind fun (t7 : Int32) =>
      g_in t7 16 (thn (uA s 16 (upd (s.2.2.1 16) t7.toNatClampNeg v3)) fun s8 =>
      thn (v3 + 1) fun x9 =>
      thn (v2 ||| ((1 : Int32) <<< (t7 &&& 31))) fun x10 =>
      some (.inl (x10, x9, s8)))
theorem X12_swaps_b19_ok (hh : mo + 18 ≤ h.2.1) (v1 : Int32) (v2 : Int32) (v3 : Int32) (s : RS) : aS l 1 MX12_swaps n0 S0 (a_LΦ (X12_swaps_x19 l n0 S0 mo h v1) l 1 MX12_swaps n0 S0 19 (fun (q : Int32 × Int32 × RS) => [(0, .ref mo), (1, .int v1), (2, .int q.1), (3, .int q.2.1)]) (fun _ => []) (fun (q : Int32 × Int32 × RS) => rH mo h q.2.2)) 19 [(0, .ref mo), (1, .int v1), (2, .int v2), (3, .int v3)] [] (rH mo h s) (X12_swaps_b19 v1 v2 v3 s) := by
  unfold X12_swaps_b19
  refine s_iload_n (pc := 19) 2 dX12_swaps_19 rfl ?_
  refine s_iload_n (pc := 20) 1 dX12_swaps_20 rfl ?_
  refine s_icmp_eq (tgt := 81) (pc := 21) dX12_swaps_21 (by decide) (fun _ => ?_) (fun _ => ?_)
  · refine s_sub [0] rfl ?_
    exact s_ev (fun _ _ q => q)
  · refine s_iconst (v := 0) (pc := 24) dX12_swaps_24 (by decide) ?_
    refine s_istore (lv' := [(4, .int 0), (0, .ref mo), (1, .int v1), (2, .int v2), (3, .int v3)]) (pc := 25) dX12_swaps_25 (by decide) rfl ?_
    refine s_bind (Ψ := X12_swaps_x27 l n0 S0 mo h v1 v2 v3 s) ?_ ?_
    · refine s_sub [1, 2, 3, 4, 0] rfl ?_
      exact s_loop (lvf := fun (q : Int32) => [(0, .ref mo), (1, .int v1), (2, .int v2), (3, .int v3), (4, .int q)]) (stf := fun _ => []) (hf := fun (q : Int32) => rH mo h s) (fun q => X12_swaps_b27_ok hh v1 v2 v3 q s) FU (0 : Int32)
    · intro t7 z r h' hz hr
      refine (?_ : aS l 1 MX12_swaps n0 S0 (a_LΦ (X12_swaps_x19 l n0 S0 mo h v1) l 1 MX12_swaps n0 S0 19 (fun (q : Int32 × Int32 × RS) => [(0, .ref mo), (1, .int v1), (2, .int q.1), (3, .int q.2.1)]) (fun _ => []) (fun (q : Int32 × Int32 × RS) => rH mo h q.2.2)) 60 [(0, .ref mo), (1, .int v1), (2, .int v2), (3, .int v3), (4, .int t7)] [] (rH mo h s) _) z hz r h' hr
      refine s_aload_n (pc := 60) 0 dX12_swaps_60 rfl ?_
      refine rg_72 hh (pc := 61) dX12_swaps_61 rfl ?_
      refine s_iload (pc := 64) 4 dX12_swaps_64 rfl ?_
      refine s_iload_n (pc := 66) 3 dX12_swaps_66 rfl ?_
      refine rs_16 hh (pc := 67) dX12_swaps_67 (fun s8 => ?_)
      refine s_iincT (pc := 68) 3 (lv' := fun x9 => [(3, .int x9), (0, .ref mo), (1, .int v1), (2, .int v2), (4, .int t7)]) dX12_swaps_68 rfl rfl (by decide) (fun _ => rfl) (fun x9 => ?_)
      refine s_iload_n (pc := 71) 3 dX12_swaps_71 rfl ?_
      refine s_iconst (v := 1) (pc := 72) dX12_swaps_72 (by decide) ?_
      refine s_iload (pc := 73) 4 dX12_swaps_73 rfl ?_
      refine s_ishl (pc := 75) dX12_swaps_75 ?_
      refine s_ior (pc := 76) dX12_swaps_76 ?_
      refine s_istore_nT (lv' := fun x10 => [(2, .int x10), (3, .int x9), (0, .ref mo), (1, .int v1), (4, .int t7)]) (pc := 77) dX12_swaps_77 (by decide) (fun _ => rfl) (fun x10 => ?_)
      refine s_goto (tgt := 19) (pc := 78) dX12_swaps_78 (by decide) ?_
      refine s_sub [2, 3, 0, 1] rfl ?_
      exact s_ev (fun _ _ q => q)
def X12_swaps_x87 (l : Launch) (n0 S0 : Nat) (mo : Nat) (h : aH) (s : RS) : Int32 → Option Value → aH → Prop := fun (x : Int32) r h' => aEv l 1 MX12_swaps n0 S0 172 [(4, .int x)] [] (rH mo h s) r h'
def X12_swaps_x105 (l : Launch) (n0 S0 : Nat) (mo : Nat) (h : aH) (v5 : Int32) (s : RS) : Int32 → Option Value → aH → Prop := fun (x : Int32) r h' => aEv l 1 MX12_swaps n0 S0 166 [(0, .ref mo), (4, .int x), (5, .int v5)] [] (rH mo h s) r h'
def X12_swaps_j157 (v5 : Int32) (v6 : Int32) (k0 : Int32) (k1 : Bool) (s : RS) : Option ((Int32 × Int32) ⊕ Int32) :=
  thn (k0 + (b2i k1)) fun x13 =>
  thn (v6 + 1) fun x14 =>
  some (.inl (x13, x14))
theorem X12_swaps_j157_ok (hh : mo + 18 ≤ h.2.1) (v5 : Int32) (v6 : Int32) (k0 : Int32) (k1 : Bool) (s : RS) : aS l 1 MX12_swaps n0 S0 (a_LΦ (X12_swaps_x105 l n0 S0 mo h v5 s) l 1 MX12_swaps n0 S0 105 (fun (q : Int32 × Int32) => [(0, .ref mo), (4, .int q.1), (5, .int v5), (6, .int q.2)]) (fun _ => []) (fun (q : Int32 × Int32) => rH mo h s)) 157 [(0, .ref mo), (5, .int v5), (6, .int v6)] [.int (b2i k1), .int k0] (rH mo h s) (X12_swaps_j157 v5 v6 k0 k1 s) := by
  unfold X12_swaps_j157
  refine s_iadd (pc := 157) dX12_swaps_157 ?_
  refine s_istoreT (lv' := fun x13 => [(4, .int x13), (0, .ref mo), (5, .int v5), (6, .int v6)]) (pc := 158) dX12_swaps_158 (by decide) (fun _ => rfl) (fun x13 => ?_)
  refine s_iincT (pc := 160) 3 (lv' := fun x14 => [(6, .int x14), (4, .int x13), (0, .ref mo), (5, .int v5)]) dX12_swaps_160 rfl rfl (by decide) (fun _ => rfl) (fun x14 => ?_)
  refine s_goto (tgt := 105) (pc := 163) dX12_swaps_163 (by decide) ?_
  refine s_sub [2, 1, 3, 0] rfl ?_
  exact s_ev (fun _ _ q => q)
def X12_swaps_b105 (v5 : Int32) (v4 : Int32) (v6 : Int32) (s : RS) : Option ((Int32 × Int32) ⊕ Int32) :=
  g_in (118 : Int32) 1800 (
  if (s.2.2.1 4 (118 : Int32).toNatClampNeg) ≤ v6 then
    some (.inr v4)
  else
    g_in ((119 : Int32) + v5) 1800 (
    g_in (s.2.2.1 4 ((119 : Int32) + v5).toNatClampNeg) 16 (
    g_in ((119 : Int32) + v6) 1800 (
    g_in (s.2.2.1 4 ((119 : Int32) + v6).toNatClampNeg) 16 (
    if (s.2.2.1 16 (s.2.2.1 4 ((119 : Int32) + v5).toNatClampNeg).toNatClampNeg) ≤ (s.2.2.1 16 (s.2.2.1 4 ((119 : Int32) + v6).toNatClampNeg).toNatClampNeg) then
      X12_swaps_j157 v5 v6 v4 false s
    else
      X12_swaps_j157 v5 v6 v4 true s)))))
theorem X12_swaps_b105_ok (hh : mo + 18 ≤ h.2.1) (v5 : Int32) (v4 : Int32) (v6 : Int32) (s : RS) : aS l 1 MX12_swaps n0 S0 (a_LΦ (X12_swaps_x105 l n0 S0 mo h v5 s) l 1 MX12_swaps n0 S0 105 (fun (q : Int32 × Int32) => [(0, .ref mo), (4, .int q.1), (5, .int v5), (6, .int q.2)]) (fun _ => []) (fun (q : Int32 × Int32) => rH mo h s)) 105 [(0, .ref mo), (4, .int v4), (5, .int v5), (6, .int v6)] [] (rH mo h s) (X12_swaps_b105 v5 v4 v6 s) := by
  unfold X12_swaps_b105
  refine s_iload (pc := 105) 3 dX12_swaps_105 rfl ?_
  refine s_aload_n (pc := 107) 0 dX12_swaps_107 rfl ?_
  refine rg_35 hh (pc := 108) dX12_swaps_108 rfl ?_
  refine s_bipush (v := 118) (pc := 111) dX12_swaps_111 (by decide) ?_
  refine rl_4 hh (pc := 113) dX12_swaps_113 ?_
  refine s_icmp_ge (tgt := 166) (pc := 114) dX12_swaps_114 (by decide) (fun _ => ?_) (fun _ => ?_)
  · refine s_sub [0, 1, 2] rfl ?_
    exact s_ev (fun _ _ q => q)
  · refine s_iload (pc := 117) 1 dX12_swaps_117 rfl ?_
    refine s_aload_n (pc := 119) 0 dX12_swaps_119 rfl ?_
    refine rg_72 hh (pc := 120) dX12_swaps_120 rfl ?_
    refine s_aload_n (pc := 123) 0 dX12_swaps_123 rfl ?_
    refine rg_35 hh (pc := 124) dX12_swaps_124 rfl ?_
    refine s_bipush (v := 119) (pc := 127) dX12_swaps_127 (by decide) ?_
    refine s_iload (pc := 129) 2 dX12_swaps_129 rfl ?_
    refine s_iadd (pc := 131) dX12_swaps_131 ?_
    refine rl_4 hh (pc := 132) dX12_swaps_132 ?_
    refine rl_16 hh (pc := 133) dX12_swaps_133 ?_
    refine s_aload_n (pc := 134) 0 dX12_swaps_134 rfl ?_
    refine rg_72 hh (pc := 135) dX12_swaps_135 rfl ?_
    refine s_aload_n (pc := 138) 0 dX12_swaps_138 rfl ?_
    refine rg_35 hh (pc := 139) dX12_swaps_139 rfl ?_
    refine s_bipush (v := 119) (pc := 142) dX12_swaps_142 (by decide) ?_
    refine s_iload (pc := 144) 3 dX12_swaps_144 rfl ?_
    refine s_iadd (pc := 146) dX12_swaps_146 ?_
    refine rl_4 hh (pc := 147) dX12_swaps_147 ?_
    refine rl_16 hh (pc := 148) dX12_swaps_148 ?_
    refine s_icmp_le (tgt := 156) (pc := 149) dX12_swaps_149 (by decide) (fun _ => ?_) (fun _ => ?_)
    · refine s_iconst (v := 0) (pc := 156) dX12_swaps_156 (by decide) ?_
      refine s_sub [0, 2, 3] rfl ?_
      exact X12_swaps_j157_ok hh v5 v6 v4 false s
    · refine s_iconst (v := 1) (pc := 152) dX12_swaps_152 (by decide) ?_
      refine s_goto (tgt := 157) (pc := 153) dX12_swaps_153 (by decide) ?_
      refine s_sub [0, 2, 3] rfl ?_
      exact X12_swaps_j157_ok hh v5 v6 v4 true s
def X12_swaps_b87 (v4 : Int32) (v5 : Int32) (s : RS) : Option ((Int32 × Int32) ⊕ Int32) :=
  g_in (118 : Int32) 1800 (
  if (s.2.2.1 4 (118 : Int32).toNatClampNeg) ≤ v5 then
    some (.inr v4)
  else
    thn (v5 + (1 : Int32)) fun x12 =>
    (a_loop (fun (q : Int32 × Int32) => X12_swaps_b105 v5 q.1 q.2 s) FU (v4, x12)).bind fun (t15 : Int32) =>
      thn (v5 + 1) fun x16 =>
      some (.inl (t15, x16)))
theorem X12_swaps_b87_ok (hh : mo + 18 ≤ h.2.1) (v4 : Int32) (v5 : Int32) (s : RS) : aS l 1 MX12_swaps n0 S0 (a_LΦ (X12_swaps_x87 l n0 S0 mo h s) l 1 MX12_swaps n0 S0 87 (fun (q : Int32 × Int32) => [(0, .ref mo), (4, .int q.1), (5, .int q.2)]) (fun _ => []) (fun (q : Int32 × Int32) => rH mo h s)) 87 [(0, .ref mo), (4, .int v4), (5, .int v5)] [] (rH mo h s) (X12_swaps_b87 v4 v5 s) := by
  unfold X12_swaps_b87
  refine s_iload (pc := 87) 2 dX12_swaps_87 rfl ?_
  refine s_aload_n (pc := 89) 0 dX12_swaps_89 rfl ?_
  refine rg_35 hh (pc := 90) dX12_swaps_90 rfl ?_
  refine s_bipush (v := 118) (pc := 93) dX12_swaps_93 (by decide) ?_
  refine rl_4 hh (pc := 95) dX12_swaps_95 ?_
  refine s_icmp_ge (tgt := 172) (pc := 96) dX12_swaps_96 (by decide) (fun _ => ?_) (fun _ => ?_)
  · refine s_sub [1] rfl ?_
    exact s_ev (fun _ _ q => q)
  · refine s_iload (pc := 99) 2 dX12_swaps_99 rfl ?_
    refine s_iconst (v := 1) (pc := 101) dX12_swaps_101 (by decide) ?_
    refine s_iadd (pc := 102) dX12_swaps_102 ?_
    refine s_istoreT (lv' := fun x12 => [(6, .int x12), (0, .ref mo), (4, .int v4), (5, .int v5)]) (pc := 103) dX12_swaps_103 (by decide) (fun _ => rfl) (fun x12 => ?_)
    refine s_bind (Ψ := X12_swaps_x105 l n0 S0 mo h v5 s) ?_ ?_
    · refine s_sub [1, 2, 3, 0] rfl ?_
      exact s_loop (lvf := fun (q : Int32 × Int32) => [(0, .ref mo), (4, .int q.1), (5, .int v5), (6, .int q.2)]) (stf := fun _ => []) (hf := fun (q : Int32 × Int32) => rH mo h s) (fun q => X12_swaps_b105_ok hh v5 q.1 q.2 s) FU (v4, x12)
    · intro t15 z r h' hz hr
      refine (?_ : aS l 1 MX12_swaps n0 S0 (a_LΦ (X12_swaps_x87 l n0 S0 mo h s) l 1 MX12_swaps n0 S0 87 (fun (q : Int32 × Int32) => [(0, .ref mo), (4, .int q.1), (5, .int q.2)]) (fun _ => []) (fun (q : Int32 × Int32) => rH mo h s)) 166 [(0, .ref mo), (4, .int t15), (5, .int v5)] [] (rH mo h s) _) z hz r h' hr
      refine s_iincT (pc := 166) 2 (lv' := fun x16 => [(5, .int x16), (0, .ref mo), (4, .int t15)]) dX12_swaps_166 rfl rfl (by decide) (fun _ => rfl) (fun x16 => ?_)
      refine s_goto (tgt := 87) (pc := 169) dX12_swaps_169 (by decide) ?_
      refine s_sub [1, 2, 0] rfl ?_
      exact s_ev (fun _ _ q => q)
def pX12_swaps (s : RS) : Option (Int32 × RS) :=
  thn (uI s 1 (0 : Int32)) fun s1 =>
  thn (uI s1 0 (0 : Int32)) fun s2 =>
  (pX12_orderSet s2).bind fun x3 =>
  (a_loop (fun (q : Int32 × Int32 × RS) => X12_swaps_b19 x3 q.1 q.2.1 q.2.2) FU ((0 : Int32), (0 : Int32), s2)).bind fun (t11 : RS) =>
    (a_loop (fun (q : Int32 × Int32) => X12_swaps_b87 q.1 q.2 t11) FU ((0 : Int32), (0 : Int32))).bind fun (t17 : Int32) =>
      some (t17, t11)
theorem pX12_swaps_w (hh : mo + 18 ≤ h.2.1) (s : RS) : aS l 1 MX12_swaps n0 S0 (oΦ (fun (x : Int32 × RS) => (some (.int x.1), rH mo h x.2))) 0 [(0, .ref mo)] [] (rH mo h s) (pX12_swaps s) := by
  unfold pX12_swaps
  refine s_aload_n (pc := 0) 0 dX12_swaps_0 rfl ?_
  refine s_iconst (v := 0) (pc := 1) dX12_swaps_1 (by decide) ?_
  refine rp_75 hh (pc := 2) dX12_swaps_2 rfl (fun s1 => ?_)
  refine s_aload_n (pc := 5) 0 dX12_swaps_5 rfl ?_
  refine s_iconst (v := 0) (pc := 6) dX12_swaps_6 (by decide) ?_
  refine rp_78 hh (pc := 7) dX12_swaps_7 rfl (fun s2 => ?_)
  refine s_aload_n (pc := 10) 0 dX12_swaps_10 rfl ?_
  refine s_callV (M := MX12_swaps) (As := []) (st := []) (Ψ := fun (x : Int32) => (some (.int x), rH mo h s2)) cv_X12_397 (by decide) (pc := 11) dX12_swaps_11 r_0 (r_lt (k := 0) hh (by decide)) rfl (Nat.le_of_ble_eq_true rfl) (fun x hx => pX12_orderSet_ok hh s2 x hx) rfl (fun x3 _ => ?_)
  refine s_istore_n (lv' := [(1, .int x3), (0, .ref mo)]) (pc := 14) dX12_swaps_14 (by decide) rfl ?_
  refine s_iconst (v := 0) (pc := 15) dX12_swaps_15 (by decide) ?_
  refine s_istore_n (lv' := [(2, .int 0), (1, .int x3), (0, .ref mo)]) (pc := 16) dX12_swaps_16 (by decide) rfl ?_
  refine s_iconst (v := 0) (pc := 17) dX12_swaps_17 (by decide) ?_
  refine s_istore_n (lv' := [(3, .int 0), (2, .int 0), (1, .int x3), (0, .ref mo)]) (pc := 18) dX12_swaps_18 (by decide) rfl ?_
  refine s_bind (Ψ := X12_swaps_x19 l n0 S0 mo h x3) ?_ ?_
  · refine s_sub [3, 2, 1, 0] rfl ?_
    exact s_loop (lvf := fun (q : Int32 × Int32 × RS) => [(0, .ref mo), (1, .int x3), (2, .int q.1), (3, .int q.2.1)]) (stf := fun _ => []) (hf := fun (q : Int32 × Int32 × RS) => rH mo h q.2.2) (fun q => X12_swaps_b19_ok hh x3 q.1 q.2.1 q.2.2) FU ((0 : Int32), (0 : Int32), s2)
  · intro t11 z r h' hz hr
    refine (?_ : aS l 1 MX12_swaps n0 S0 (oΦ (fun (x : Int32 × RS) => (some (.int x.1), rH mo h x.2))) 81 [(0, .ref mo)] [] (rH mo h t11) _) z hz r h' hr
    refine s_iconst (v := 0) (pc := 81) dX12_swaps_81 (by decide) ?_
    refine s_istore (lv' := [(4, .int 0), (0, .ref mo)]) (pc := 82) dX12_swaps_82 (by decide) rfl ?_
    refine s_iconst (v := 0) (pc := 84) dX12_swaps_84 (by decide) ?_
    refine s_istore (lv' := [(5, .int 0), (4, .int 0), (0, .ref mo)]) (pc := 85) dX12_swaps_85 (by decide) rfl ?_
    refine s_bind (Ψ := X12_swaps_x87 l n0 S0 mo h t11) ?_ ?_
    · refine s_sub [2, 1, 0] rfl ?_
      exact s_loop (lvf := fun (q : Int32 × Int32) => [(0, .ref mo), (4, .int q.1), (5, .int q.2)]) (stf := fun _ => []) (hf := fun (q : Int32 × Int32) => rH mo h t11) (fun q => X12_swaps_b87_ok hh q.1 q.2 t11) FU ((0 : Int32), (0 : Int32))
    · intro t17 z r h' hz hr
      refine (?_ : aS l 1 MX12_swaps n0 S0 (oΦ (fun (x : Int32 × RS) => (some (.int x.1), rH mo h x.2))) 172 [(4, .int t17)] [] (rH mo h t11) _) z hz r h' hr
      refine s_iload (pc := 172) 0 dX12_swaps_172 rfl ?_
      exact s_iret (pc := 174) dX12_swaps_174 rfl (fun _ _ q => q)
theorem pX12_swaps_ok (hh : mo + 18 ≤ h.2.1) (s : RS) : ∀ x, pX12_swaps s = some x → aMet l 1 yX12_swaps cX12_swaps 7 (some .int) [.ref mo] (rH mo h s) (some (.int x.1)) (rH mo h x.2) := fun x hx => a_meth (ini := false) (y := yX12_swaps) (by decide +kernel) (fun q => by cases q) (fun _ => Nat.le_of_ble_eq_true rfl) (pX12_swaps_w hh s) x hx _ _ ⟨rfl, rfl⟩
end
section
variable {l : Launch} {n0 S0 : Nat} {mo : Nat} {h : aH}
abbrev MX12_has : aM := (cX12_has, RX12, 2, (some .int), false)
def pX12_has (s : RS) (a0 : Int32) : Option (Int32 × RS) :=
  thn (uI s 1 (0 : Int32)) fun s1 =>
  thn (uI s1 0 (0 : Int32)) fun s2 =>
  (pX12_isIsland s2 a0).bind fun x3 =>
  if x3 = true then
    g_in ((114 : Int32) + a0) 1800 (
    some ((s2.2.2.1 4 ((114 : Int32) + a0).toNatClampNeg), s2))
  else
    (pX12_refuse s2 (2 : Int32)).bind fun x4 =>
    some (x4.1, x4.2)
theorem pX12_has_w (hh : mo + 18 ≤ h.2.1) (s : RS) (a0 : Int32) : aS l 2 MX12_has n0 S0 (oΦ (fun (x : Int32 × RS) => (some (.int x.1), rH mo h x.2))) 0 [(0, .ref mo), (1, .int a0)] [] (rH mo h s) (pX12_has s a0) := by
  unfold pX12_has
  refine s_aload_n (pc := 0) 0 dX12_has_0 rfl ?_
  refine s_iconst (v := 0) (pc := 1) dX12_has_1 (by decide) ?_
  refine rp_75 hh (pc := 2) dX12_has_2 rfl (fun s1 => ?_)
  refine s_aload_n (pc := 5) 0 dX12_has_5 rfl ?_
  refine s_iconst (v := 0) (pc := 6) dX12_has_6 (by decide) ?_
  refine rp_78 hh (pc := 7) dX12_has_7 rfl (fun s2 => ?_)
  refine s_aload_n (pc := 10) 0 dX12_has_10 rfl ?_
  refine s_iload_n (pc := 11) 1 dX12_has_11 rfl ?_
  refine s_callV (M := MX12_has) (As := [.int a0]) (st := []) (Ψ := fun (x : Bool) => (some (.int (b2i x)), rH mo h s2)) cv_X12_403 (by decide) (pc := 12) dX12_has_12 r_0 (r_lt (k := 0) hh (by decide)) rfl (Nat.le_of_ble_eq_true rfl) (fun x hx => pX12_isIsland_ok hh s2 a0 x hx) rfl (fun x3 _ => ?_)
  refine s_if_eqB (tgt := 30) (pc := 15) dX12_has_15 (by decide) (fun _ => ?_) (fun _ => ?_)
  · refine s_aload_n (pc := 18) 0 dX12_has_18 rfl ?_
    refine rg_35 hh (pc := 19) dX12_has_19 rfl ?_
    refine s_bipush (v := 114) (pc := 22) dX12_has_22 (by decide) ?_
    refine s_iload_n (pc := 24) 1 dX12_has_24 rfl ?_
    refine s_iadd (pc := 25) dX12_has_25 ?_
    refine rl_4 hh (pc := 26) dX12_has_26 ?_
    refine s_goto (tgt := 35) (pc := 27) dX12_has_27 (by decide) ?_
    exact s_iret (pc := 35) dX12_has_35 rfl (fun _ _ q => q)
  · refine s_aload_n (pc := 30) 0 dX12_has_30 rfl ?_
    refine s_iconst (v := 2) (pc := 31) dX12_has_31 (by decide) ?_
    refine s_callV (M := MX12_has) (As := [.int 2]) (st := []) (Ψ := fun (x : Int32 × RS) => (some (.int x.1), rH mo h x.2)) cv_X12_299 (by decide) (pc := 32) dX12_has_32 r_0 (r_lt (k := 0) hh (by decide)) rfl (Nat.le_of_ble_eq_true rfl) (fun x hx => pX12_refuse_ok hh s2 (2 : Int32) x hx) rfl (fun x4 _ => ?_)
    exact s_iret (pc := 35) dX12_has_35 rfl (fun _ _ q => q)
theorem pX12_has_ok (hh : mo + 18 ≤ h.2.1) (s : RS) (a0 : Int32) : ∀ x, pX12_has s a0 = some x → aMet l 2 yX12_has cX12_has 2 (some .int) [.ref mo, .int a0] (rH mo h s) (some (.int x.1)) (rH mo h x.2) := fun x hx => a_meth (ini := false) (y := yX12_has) (by decide +kernel) (fun q => by cases q) (fun _ => Nat.le_of_ble_eq_true rfl) (pX12_has_w hh s a0) x hx _ _ ⟨rfl, rfl⟩
end
section
variable {l : Launch} {n0 S0 : Nat} {mo : Nat} {h : aH}
abbrev MX12_give : aM := (cX12_give, RX12, 3, (some .boolean), false)
def X12_give_j26 (s : RS) : Option (Bool × RS) :=
  (pX12_no s (2 : Int32)).bind fun x4 =>
  some (x4.1, x4.2)
theorem X12_give_j26_ok (hh : mo + 18 ≤ h.2.1) (s : RS) : aS l 2 MX12_give n0 S0 (oΦ (fun (x : Bool × RS) => (some (.int (b2i x.1)), rH mo h x.2))) 26 [(0, .ref mo)] [] (rH mo h s) (X12_give_j26 s) := by
  unfold X12_give_j26
  refine s_aload_n (pc := 26) 0 dX12_give_26 rfl ?_
  refine s_iconst (v := 2) (pc := 27) dX12_give_27 (by decide) ?_
  refine s_callV (M := MX12_give) (As := [.int 2]) (st := []) (Ψ := fun (x : Bool × RS) => (some (.int (b2i x.1)), rH mo h x.2)) cv_X12_90 (by decide) (pc := 28) dX12_give_28 r_0 (r_lt (k := 0) hh (by decide)) rfl (Nat.le_of_ble_eq_true rfl) (fun x hx => pX12_no_ok hh s (2 : Int32) x hx) rfl (fun x4 _ => ?_)
  exact s_zretB (b := x4.1) (pc := 31) dX12_give_31 rfl (fun _ _ q => q)
def pX12_give (s : RS) (a0 : Int32) (a1 : Int32) : Option (Bool × RS) :=
  thn (uI s 1 (0 : Int32)) fun s1 =>
  thn (uI s1 0 (0 : Int32)) fun s2 =>
  (pX12_isIsland s2 a0).bind fun x3 =>
  if x3 = true then
    (pX12_isSet s2 a1).bind fun x5 =>
    if x5 = true then
      (pX12_lackOf s2 a1).bind fun x6 =>
      if x6 = 0 then
        g_in ((114 : Int32) + a0) 1800 (thn (uA s2 4 (upd (s2.2.2.1 4) ((114 : Int32) + a0).toNatClampNeg a1)) fun s7 =>
        some (true, s7))
      else
        (pX12_no s2 (9 : Int32)).bind fun x8 =>
        some (x8.1, x8.2)
    else
      X12_give_j26 s2
  else
    X12_give_j26 s2
theorem pX12_give_w (hh : mo + 18 ≤ h.2.1) (s : RS) (a0 : Int32) (a1 : Int32) : aS l 2 MX12_give n0 S0 (oΦ (fun (x : Bool × RS) => (some (.int (b2i x.1)), rH mo h x.2))) 0 [(0, .ref mo), (1, .int a0), (2, .int a1)] [] (rH mo h s) (pX12_give s a0 a1) := by
  unfold pX12_give
  refine s_aload_n (pc := 0) 0 dX12_give_0 rfl ?_
  refine s_iconst (v := 0) (pc := 1) dX12_give_1 (by decide) ?_
  refine rp_75 hh (pc := 2) dX12_give_2 rfl (fun s1 => ?_)
  refine s_aload_n (pc := 5) 0 dX12_give_5 rfl ?_
  refine s_iconst (v := 0) (pc := 6) dX12_give_6 (by decide) ?_
  refine rp_78 hh (pc := 7) dX12_give_7 rfl (fun s2 => ?_)
  refine s_aload_n (pc := 10) 0 dX12_give_10 rfl ?_
  refine s_iload_n (pc := 11) 1 dX12_give_11 rfl ?_
  refine s_callV (M := MX12_give) (As := [.int a0]) (st := []) (Ψ := fun (x : Bool) => (some (.int (b2i x)), rH mo h s2)) cv_X12_403 (by decide) (pc := 12) dX12_give_12 r_0 (r_lt (k := 0) hh (by decide)) rfl (Nat.le_of_ble_eq_true rfl) (fun x hx => pX12_isIsland_ok hh s2 a0 x hx) rfl (fun x3 _ => ?_)
  refine s_if_eqB (tgt := 26) (pc := 15) dX12_give_15 (by decide) (fun _ => ?_) (fun _ => ?_)
  · refine s_aload_n (pc := 18) 0 dX12_give_18 rfl ?_
    refine s_iload_n (pc := 19) 2 dX12_give_19 rfl ?_
    refine s_callV (M := MX12_give) (As := [.int a1]) (st := []) (Ψ := fun (x : Bool) => (some (.int (b2i x)), rH mo h s2)) cv_X12_319 (by decide) (pc := 20) dX12_give_20 r_0 (r_lt (k := 0) hh (by decide)) rfl (Nat.le_of_ble_eq_true rfl) (fun x hx => pX12_isSet_ok hh s2 a1 x hx) rfl (fun x5 _ => ?_)
    refine s_if_neB (tgt := 32) (pc := 23) dX12_give_23 (by decide) (fun _ => ?_) (fun _ => ?_)
    · refine s_aload_n (pc := 32) 0 dX12_give_32 rfl ?_
      refine s_iload_n (pc := 33) 2 dX12_give_33 rfl ?_
      refine s_callV (M := MX12_give) (As := [.int a1]) (st := []) (Ψ := fun (x : Int32) => (some (.int x), rH mo h s2)) cv_X12_322 (by decide) (pc := 34) dX12_give_34 r_0 (r_lt (k := 0) hh (by decide)) rfl (Nat.le_of_ble_eq_true rfl) (fun x hx => pX12_lackOf_ok hh s2 a1 x hx) rfl (fun x6 _ => ?_)
      refine s_if_eq (tgt := 47) (pc := 37) dX12_give_37 (by decide) (fun _ => ?_) (fun _ => ?_)
      · refine s_aload_n (pc := 47) 0 dX12_give_47 rfl ?_
        refine rg_35 hh (pc := 48) dX12_give_48 rfl ?_
        refine s_bipush (v := 114) (pc := 51) dX12_give_51 (by decide) ?_
        refine s_iload_n (pc := 53) 1 dX12_give_53 rfl ?_
        refine s_iadd (pc := 54) dX12_give_54 ?_
        refine s_iload_n (pc := 55) 2 dX12_give_55 rfl ?_
        refine rs_4 hh (pc := 56) dX12_give_56 (fun s7 => ?_)
        refine s_iconst (v := 1) (pc := 57) dX12_give_57 (by decide) ?_
        exact s_zretB (b := true) (pc := 58) dX12_give_58 rfl (fun _ _ q => q)
      · refine s_aload_n (pc := 40) 0 dX12_give_40 rfl ?_
        refine s_bipush (v := 9) (pc := 41) dX12_give_41 (by decide) ?_
        refine s_callV (M := MX12_give) (As := [.int 9]) (st := []) (Ψ := fun (x : Bool × RS) => (some (.int (b2i x.1)), rH mo h x.2)) cv_X12_90 (by decide) (pc := 43) dX12_give_43 r_0 (r_lt (k := 0) hh (by decide)) rfl (Nat.le_of_ble_eq_true rfl) (fun x hx => pX12_no_ok hh s2 (9 : Int32) x hx) rfl (fun x8 _ => ?_)
        exact s_zretB (b := x8.1) (pc := 46) dX12_give_46 rfl (fun _ _ q => q)
    · refine s_sub [0] rfl ?_
      exact X12_give_j26_ok hh s2
  · refine s_sub [0] rfl ?_
    exact X12_give_j26_ok hh s2
theorem pX12_give_ok (hh : mo + 18 ≤ h.2.1) (s : RS) (a0 : Int32) (a1 : Int32) : ∀ x, pX12_give s a0 a1 = some x → aMet l 2 yX12_give cX12_give 3 (some .boolean) [.ref mo, .int a0, .int a1] (rH mo h s) (some (.int (b2i x.1))) (rH mo h x.2) := fun x hx => a_meth (ini := false) (y := yX12_give) (by decide +kernel) (fun q => by cases q) (fun _ => Nat.le_of_ble_eq_true rfl) (pX12_give_w hh s a0 a1) x hx _ _ ⟨rfl, rfl⟩
end
section
variable {l : Launch} {n0 S0 : Nat} {mo : Nat} {h : aH}
abbrev MX12_readLogName : aM := (cX12_readLogName, RX12, 3, (some .int), false)
def X12_readLogName_j82 (v2 : Int32) (s : RS) : Option (Int32 × RS) :=
  (pX12_must s true).bind fun x2 =>
  some (v2, x2)
theorem X12_readLogName_j82_ok (hh : mo + 18 ≤ h.2.1) (v2 : Int32) (s : RS) : aS l 4 MX12_readLogName n0 S0 (oΦ (fun (x : Int32 × RS) => (some (.int x.1), rH mo h x.2))) 82 [(0, .ref mo), (2, .int v2)] [] (rH mo h s) (X12_readLogName_j82 v2 s) := by
  unfold X12_readLogName_j82
  refine s_aload_n (pc := 82) 0 dX12_readLogName_82 rfl ?_
  refine s_iconst (v := 1) (pc := 83) dX12_readLogName_83 (by decide) ?_
  refine s_callV (M := MX12_readLogName) (As := [.int 1]) (st := []) (Ψ := fun (x : RS) => (none, rH mo h x)) cv_X12_252 (by decide) (pc := 84) dX12_readLogName_84 r_0 (r_lt (k := 0) hh (by decide)) rfl (Nat.le_of_ble_eq_true rfl) (fun x hx => pX12_must_ok hh s true x hx) rfl (fun x2 _ => ?_)
  refine s_iload_n (pc := 87) 1 dX12_readLogName_87 rfl ?_
  exact s_iret (pc := 88) dX12_readLogName_88 rfl (fun _ _ q => q)
def X12_readLogName_j61 (k0 : Int32) (s : RS) : Option (Int32 × RS) :=
  if (s.1 12) = 0 then
    if 0 ≤ k0 then
      X12_readLogName_j82 k0 s
    else
      (pX12_fail s (3 : Int32) (s.1 15)).bind fun x3 =>
      X12_readLogName_j82 k0 x3
  else
    X12_readLogName_j82 k0 s
theorem X12_readLogName_j61_ok (hh : mo + 18 ≤ h.2.1) (k0 : Int32) (s : RS) : aS l 4 MX12_readLogName n0 S0 (oΦ (fun (x : Int32 × RS) => (some (.int x.1), rH mo h x.2))) 61 [(0, .ref mo)] [.int k0] (rH mo h s) (X12_readLogName_j61 k0 s) := by
  unfold X12_readLogName_j61
  refine s_istore_n (lv' := [(2, .int k0), (0, .ref mo)]) (pc := 61) dX12_readLogName_61 (by decide) rfl ?_
  refine s_aload_n (pc := 62) 1 dX12_readLogName_62 rfl ?_
  refine rg_209 hh (pc := 63) dX12_readLogName_63 rfl ?_
  refine s_if_ne (tgt := 82) (pc := 66) dX12_readLogName_66 (by decide) (fun _ => ?_) (fun _ => ?_)
  · refine s_iload_n (pc := 69) 0 dX12_readLogName_69 rfl ?_
    refine s_if_ge (tgt := 82) (pc := 70) dX12_readLogName_70 (by decide) (fun _ => ?_) (fun _ => ?_)
    · refine s_sub [1, 0] rfl ?_
      exact X12_readLogName_j82_ok hh k0 s
    · refine s_aload_n (pc := 73) 1 dX12_readLogName_73 rfl ?_
      refine s_iconst (v := 3) (pc := 74) dX12_readLogName_74 (by decide) ?_
      refine s_aload_n (pc := 75) 1 dX12_readLogName_75 rfl ?_
      refine rg_120 hh (pc := 76) dX12_readLogName_76 rfl ?_
      refine s_callV (M := MX12_readLogName) (As := [.int 3, .int (s.1 15)]) (st := []) (Ψ := fun (x : RS) => (none, rH mo h x)) cv_X12_215 (by decide) (pc := 79) dX12_readLogName_79 r_0 (r_lt (k := 0) hh (by decide)) rfl (Nat.le_of_ble_eq_true rfl) (fun x hx => pX12_fail_ok hh s (3 : Int32) (s.1 15) x hx) rfl (fun x3 _ => ?_)
      refine s_sub [1, 0] rfl ?_
      exact X12_readLogName_j82_ok hh k0 x3
  · refine s_sub [1, 0] rfl ?_
    exact X12_readLogName_j82_ok hh k0 s
def X12_readLogName_j18 (v1 : Bool) (s : RS) : Option (Int32 × RS) :=
  if (s.1 12) ≤ 0 then
    if v1 = true then
      g_in (1 : Int32) 1800 (
      (pX12_named s (0 : Int32) (16 : Int32) (s.2.2.1 4 (1 : Int32).toNatClampNeg)).bind fun x4 =>
      X12_readLogName_j61 x4 s)
    else
      g_in (0 : Int32) 1800 (
      (pX12_named s (0 : Int32) (0 : Int32) (s.2.2.1 4 (0 : Int32).toNatClampNeg)).bind fun x1 =>
      X12_readLogName_j61 x1 s)
  else
    X12_readLogName_j61 (0 : Int32) s
theorem X12_readLogName_j18_ok (hh : mo + 18 ≤ h.2.1) (v1 : Bool) (s : RS) : aS l 4 MX12_readLogName n0 S0 (oΦ (fun (x : Int32 × RS) => (some (.int x.1), rH mo h x.2))) 18 [(0, .ref mo), (1, .int (b2i v1))] [] (rH mo h s) (X12_readLogName_j18 v1 s) := by
  unfold X12_readLogName_j18
  refine s_aload_n (pc := 18) 0 dX12_readLogName_18 rfl ?_
  refine rg_209 hh (pc := 19) dX12_readLogName_19 rfl ?_
  refine s_if_le (tgt := 29) (pc := 22) dX12_readLogName_22 (by decide) (fun _ => ?_) (fun _ => ?_)
  · refine s_iload_n (pc := 29) 1 dX12_readLogName_29 rfl ?_
    refine s_if_eqB (tgt := 49) (pc := 30) dX12_readLogName_30 (by decide) (fun _ => ?_) (fun _ => ?_)
    · refine s_aload_n (pc := 33) 0 dX12_readLogName_33 rfl ?_
      refine s_iconst (v := 0) (pc := 34) dX12_readLogName_34 (by decide) ?_
      refine s_bipush (v := 16) (pc := 35) dX12_readLogName_35 (by decide) ?_
      refine s_aload_n (pc := 37) 0 dX12_readLogName_37 rfl ?_
      refine rg_35 hh (pc := 38) dX12_readLogName_38 rfl ?_
      refine s_iconst (v := 1) (pc := 41) dX12_readLogName_41 (by decide) ?_
      refine rl_4 hh (pc := 42) dX12_readLogName_42 ?_
      refine s_callV (M := MX12_readLogName) (As := [.int 0, .int 16, .int (s.2.2.1 4 (1 : Int32).toNatClampNeg)]) (st := []) (Ψ := fun (x : Int32) => (some (.int x), rH mo h s)) cv_X12_235 (by decide) (pc := 43) dX12_readLogName_43 r_0 (r_lt (k := 0) hh (by decide)) rfl (Nat.le_of_ble_eq_true rfl) (fun x hx => pX12_named_ok hh s (0 : Int32) (16 : Int32) (s.2.2.1 4 (1 : Int32).toNatClampNeg) x hx) rfl (fun x4 _ => ?_)
      refine s_goto (tgt := 61) (pc := 46) dX12_readLogName_46 (by decide) ?_
      refine s_sub [0] rfl ?_
      exact X12_readLogName_j61_ok hh x4 s
    · refine s_aload_n (pc := 49) 0 dX12_readLogName_49 rfl ?_
      refine s_iconst (v := 0) (pc := 50) dX12_readLogName_50 (by decide) ?_
      refine s_iconst (v := 0) (pc := 51) dX12_readLogName_51 (by decide) ?_
      refine s_aload_n (pc := 52) 0 dX12_readLogName_52 rfl ?_
      refine rg_35 hh (pc := 53) dX12_readLogName_53 rfl ?_
      refine s_iconst (v := 0) (pc := 56) dX12_readLogName_56 (by decide) ?_
      refine rl_4 hh (pc := 57) dX12_readLogName_57 ?_
      refine s_callV (M := MX12_readLogName) (As := [.int 0, .int 0, .int (s.2.2.1 4 (0 : Int32).toNatClampNeg)]) (st := []) (Ψ := fun (x : Int32) => (some (.int x), rH mo h s)) cv_X12_235 (by decide) (pc := 58) dX12_readLogName_58 r_0 (r_lt (k := 0) hh (by decide)) rfl (Nat.le_of_ble_eq_true rfl) (fun x hx => pX12_named_ok hh s (0 : Int32) (0 : Int32) (s.2.2.1 4 (0 : Int32).toNatClampNeg) x hx) rfl (fun x1 _ => ?_)
      refine s_sub [0] rfl ?_
      exact X12_readLogName_j61_ok hh x1 s
  · refine s_iconst (v := 0) (pc := 25) dX12_readLogName_25 (by decide) ?_
    refine s_goto (tgt := 61) (pc := 26) dX12_readLogName_26 (by decide) ?_
    refine s_sub [0] rfl ?_
    exact X12_readLogName_j61_ok hh (0 : Int32) s
def pX12_readLogName (s : RS) (a0 : Bool) : Option (Int32 × RS) :=
  if (s.1 12) = 0 then
    (pX12_isName s).bind fun x5 =>
    if x5 = true then
      X12_readLogName_j18 a0 s
    else
      (pX12_wrong s).bind fun x6 =>
      X12_readLogName_j18 a0 x6
  else
    X12_readLogName_j18 a0 s
theorem pX12_readLogName_w (hh : mo + 18 ≤ h.2.1) (s : RS) (a0 : Bool) : aS l 4 MX12_readLogName n0 S0 (oΦ (fun (x : Int32 × RS) => (some (.int x.1), rH mo h x.2))) 0 [(0, .ref mo), (1, .int (b2i a0))] [] (rH mo h s) (pX12_readLogName s a0) := by
  unfold pX12_readLogName
  refine s_aload_n (pc := 0) 0 dX12_readLogName_0 rfl ?_
  refine rg_209 hh (pc := 1) dX12_readLogName_1 rfl ?_
  refine s_if_ne (tgt := 18) (pc := 4) dX12_readLogName_4 (by decide) (fun _ => ?_) (fun _ => ?_)
  · refine s_aload_n (pc := 7) 0 dX12_readLogName_7 rfl ?_
    refine s_callV (M := MX12_readLogName) (As := []) (st := []) (Ψ := fun (x : Bool) => (some (.int (b2i x)), rH mo h s)) cv_X12_232 (by decide) (pc := 8) dX12_readLogName_8 r_0 (r_lt (k := 0) hh (by decide)) rfl (Nat.le_of_ble_eq_true rfl) (fun x hx => pX12_isName_ok hh s x hx) rfl (fun x5 _ => ?_)
    refine s_if_neB (tgt := 18) (pc := 11) dX12_readLogName_11 (by decide) (fun _ => ?_) (fun _ => ?_)
    · exact X12_readLogName_j18_ok hh a0 s
    · refine s_aload_n (pc := 14) 0 dX12_readLogName_14 rfl ?_
      refine s_callV (M := MX12_readLogName) (As := []) (st := []) (Ψ := fun (x : RS) => (none, rH mo h x)) cv_X12_222 (by decide) (pc := 15) dX12_readLogName_15 r_0 (r_lt (k := 0) hh (by decide)) rfl (Nat.le_of_ble_eq_true rfl) (fun x hx => pX12_wrong_ok hh s x hx) rfl (fun x6 _ => ?_)
      exact X12_readLogName_j18_ok hh a0 x6
  · exact X12_readLogName_j18_ok hh a0 s
theorem pX12_readLogName_ok (hh : mo + 18 ≤ h.2.1) (s : RS) (a0 : Bool) : ∀ x, pX12_readLogName s a0 = some x → aMet l 4 yX12_readLogName cX12_readLogName 3 (some .int) [.ref mo, .int (b2i a0)] (rH mo h s) (some (.int x.1)) (rH mo h x.2) := fun x hx => a_meth (ini := false) (y := yX12_readLogName) (by decide +kernel) (fun q => by cases q) (fun _ => Nat.le_of_ble_eq_true rfl) (pX12_readLogName_w hh s a0) x hx _ _ ⟨rfl, rfl⟩
end
section
variable {l : Launch} {n0 S0 : Nat} {mo : Nat} {h : aH}
abbrev MX12_readShip : aM := (cX12_readShip, RX12, 2, none, false)
def X12_readShip_j85 (v1 : Int32) (s : RS) : Option RS :=
  if (s.1 12) = 0 then
    (pX12_isTwice s).bind fun x9 =>
    if x9 = true then
      (pX12_next s).bind fun x10 =>
      g_in (v1 + (4 : Int32)) 1800 (thn (uA x10 4 (upd (x10.2.2.1 4) (v1 + (4 : Int32)).toNatClampNeg (1 : Int32))) fun s11 =>
      some s11)
    else
      some s
  else
    some s
theorem X12_readShip_j85_ok (hh : mo + 18 ≤ h.2.1) (v1 : Int32) (s : RS) : aS l 5 MX12_readShip n0 S0 (oΦ (fun (x : RS) => (none, rH mo h x))) 85 [(0, .ref mo), (1, .int v1)] [] (rH mo h s) (X12_readShip_j85 v1 s) := by
  unfold X12_readShip_j85
  refine s_aload_n (pc := 85) 0 dX12_readShip_85 rfl ?_
  refine rg_209 hh (pc := 86) dX12_readShip_86 rfl ?_
  refine s_if_ne (tgt := 112) (pc := 89) dX12_readShip_89 (by decide) (fun _ => ?_) (fun _ => ?_)
  · refine s_aload_n (pc := 92) 0 dX12_readShip_92 rfl ?_
    refine s_callV (M := MX12_readShip) (As := []) (st := []) (Ψ := fun (x : Bool) => (some (.int (b2i x)), rH mo h s)) cv_X12_191 (by decide) (pc := 93) dX12_readShip_93 r_0 (r_lt (k := 0) hh (by decide)) rfl (Nat.le_of_ble_eq_true rfl) (fun x hx => pX12_isTwice_ok hh s x hx) rfl (fun x9 _ => ?_)
    refine s_if_eqB (tgt := 112) (pc := 96) dX12_readShip_96 (by decide) (fun _ => ?_) (fun _ => ?_)
    · refine s_aload_n (pc := 99) 0 dX12_readShip_99 rfl ?_
      refine s_callV (M := MX12_readShip) (As := []) (st := []) (Ψ := fun (x : RS) => (none, rH mo h x)) cv_X12_219 (by decide) (pc := 100) dX12_readShip_100 r_0 (r_lt (k := 0) hh (by decide)) rfl (Nat.le_of_ble_eq_true rfl) (fun x hx => pX12_next_ok hh s x hx) rfl (fun x10 _ => ?_)
      refine s_aload_n (pc := 103) 0 dX12_readShip_103 rfl ?_
      refine rg_35 hh (pc := 104) dX12_readShip_104 rfl ?_
      refine s_iload_n (pc := 107) 1 dX12_readShip_107 rfl ?_
      refine s_iconst (v := 4) (pc := 108) dX12_readShip_108 (by decide) ?_
      refine s_iadd (pc := 109) dX12_readShip_109 ?_
      refine s_iconst (v := 1) (pc := 110) dX12_readShip_110 (by decide) ?_
      refine rs_4 hh (pc := 111) dX12_readShip_111 (fun s11 => ?_)
      exact s_vret (pc := 112) dX12_readShip_112 rfl (fun _ _ q => q)
    · exact s_vret (pc := 112) dX12_readShip_112 rfl (fun _ _ q => q)
  · exact s_vret (pc := 112) dX12_readShip_112 rfl (fun _ _ q => q)
def pX12_readShip (s : RS) (a0 : Int32) : Option RS :=
  (pX12_readLogName s true).bind fun x1 =>
  g_in (a0 + (1 : Int32)) 1800 (thn (uA x1.2 4 (upd (x1.2.2.2.1 4) (a0 + (1 : Int32)).toNatClampNeg x1.1)) fun s2 =>
  (pX12_isTo s2).bind fun x3 =>
  (pX12_must s2 x3).bind fun x4 =>
  (pX12_readLogName x4 true).bind fun x5 =>
  g_in (a0 + (2 : Int32)) 1800 (thn (uA x5.2 4 (upd (x5.2.2.2.1 4) (a0 + (2 : Int32)).toNatClampNeg x5.1)) fun s6 =>
  g_in (a0 + (3 : Int32)) 1800 (thn (uA s6 4 (upd (s6.2.2.1 4) (a0 + (3 : Int32)).toNatClampNeg (0 : Int32))) fun s7 =>
  g_in (a0 + (4 : Int32)) 1800 (thn (uA s7 4 (upd (s7.2.2.1 4) (a0 + (4 : Int32)).toNatClampNeg (0 : Int32))) fun s8 =>
  if (s8.1 12) = 0 then
    (pX12_isLate s8).bind fun x12 =>
    if x12 = true then
      (pX12_next s8).bind fun x13 =>
      (pX12_count x13 (0 : Int32) (9 : Int32)).bind fun x14 =>
      g_in (a0 + (3 : Int32)) 1800 (thn (uA x14.2 4 (upd (x14.2.2.2.1 4) (a0 + (3 : Int32)).toNatClampNeg x14.1)) fun s15 =>
      X12_readShip_j85 a0 s15)
    else
      X12_readShip_j85 a0 s8
  else
    X12_readShip_j85 a0 s8))))
theorem pX12_readShip_w (hh : mo + 18 ≤ h.2.1) (s : RS) (a0 : Int32) : aS l 5 MX12_readShip n0 S0 (oΦ (fun (x : RS) => (none, rH mo h x))) 0 [(0, .ref mo), (1, .int a0)] [] (rH mo h s) (pX12_readShip s a0) := by
  unfold pX12_readShip
  refine s_aload_n (pc := 0) 0 dX12_readShip_0 rfl ?_
  refine rg_35 hh (pc := 1) dX12_readShip_1 rfl ?_
  refine s_iload_n (pc := 4) 1 dX12_readShip_4 rfl ?_
  refine s_iconst (v := 1) (pc := 5) dX12_readShip_5 (by decide) ?_
  refine s_iadd (pc := 6) dX12_readShip_6 ?_
  refine s_aload_n (pc := 7) 0 dX12_readShip_7 rfl ?_
  refine s_iconst (v := 1) (pc := 8) dX12_readShip_8 (by decide) ?_
  refine s_callV (M := MX12_readShip) (As := [.int 1]) (st := [.int (a0 + (1 : Int32)), .ref (mo + 5)]) (Ψ := fun (x : Int32 × RS) => (some (.int x.1), rH mo h x.2)) cv_X12_406 (by decide) (pc := 9) dX12_readShip_9 r_0 (r_lt (k := 0) hh (by decide)) rfl (Nat.le_of_ble_eq_true rfl) (fun x hx => pX12_readLogName_ok hh s true x hx) rfl (fun x1 _ => ?_)
  refine rs_4 hh (pc := 12) dX12_readShip_12 (fun s2 => ?_)
  refine s_aload_n (pc := 13) 0 dX12_readShip_13 rfl ?_
  refine s_aload_n (pc := 14) 0 dX12_readShip_14 rfl ?_
  refine s_callV (M := MX12_readShip) (As := []) (st := [.ref mo]) (Ψ := fun (x : Bool) => (some (.int (b2i x)), rH mo h s2)) cv_X12_185 (by decide) (pc := 15) dX12_readShip_15 r_0 (r_lt (k := 0) hh (by decide)) rfl (Nat.le_of_ble_eq_true rfl) (fun x hx => pX12_isTo_ok hh s2 x hx) rfl (fun x3 _ => ?_)
  refine s_callV (M := MX12_readShip) (As := [.int (b2i x3)]) (st := []) (Ψ := fun (x : RS) => (none, rH mo h x)) cv_X12_252 (by decide) (pc := 18) dX12_readShip_18 r_0 (r_lt (k := 0) hh (by decide)) rfl (Nat.le_of_ble_eq_true rfl) (fun x hx => pX12_must_ok hh s2 x3 x hx) rfl (fun x4 _ => ?_)
  refine s_aload_n (pc := 21) 0 dX12_readShip_21 rfl ?_
  refine rg_35 hh (pc := 22) dX12_readShip_22 rfl ?_
  refine s_iload_n (pc := 25) 1 dX12_readShip_25 rfl ?_
  refine s_iconst (v := 2) (pc := 26) dX12_readShip_26 (by decide) ?_
  refine s_iadd (pc := 27) dX12_readShip_27 ?_
  refine s_aload_n (pc := 28) 0 dX12_readShip_28 rfl ?_
  refine s_iconst (v := 1) (pc := 29) dX12_readShip_29 (by decide) ?_
  refine s_callV (M := MX12_readShip) (As := [.int 1]) (st := [.int (a0 + (2 : Int32)), .ref (mo + 5)]) (Ψ := fun (x : Int32 × RS) => (some (.int x.1), rH mo h x.2)) cv_X12_406 (by decide) (pc := 30) dX12_readShip_30 r_0 (r_lt (k := 0) hh (by decide)) rfl (Nat.le_of_ble_eq_true rfl) (fun x hx => pX12_readLogName_ok hh x4 true x hx) rfl (fun x5 _ => ?_)
  refine rs_4 hh (pc := 33) dX12_readShip_33 (fun s6 => ?_)
  refine s_aload_n (pc := 34) 0 dX12_readShip_34 rfl ?_
  refine rg_35 hh (pc := 35) dX12_readShip_35 rfl ?_
  refine s_iload_n (pc := 38) 1 dX12_readShip_38 rfl ?_
  refine s_iconst (v := 3) (pc := 39) dX12_readShip_39 (by decide) ?_
  refine s_iadd (pc := 40) dX12_readShip_40 ?_
  refine s_iconst (v := 0) (pc := 41) dX12_readShip_41 (by decide) ?_
  refine rs_4 hh (pc := 42) dX12_readShip_42 (fun s7 => ?_)
  refine s_aload_n (pc := 43) 0 dX12_readShip_43 rfl ?_
  refine rg_35 hh (pc := 44) dX12_readShip_44 rfl ?_
  refine s_iload_n (pc := 47) 1 dX12_readShip_47 rfl ?_
  refine s_iconst (v := 4) (pc := 48) dX12_readShip_48 (by decide) ?_
  refine s_iadd (pc := 49) dX12_readShip_49 ?_
  refine s_iconst (v := 0) (pc := 50) dX12_readShip_50 (by decide) ?_
  refine rs_4 hh (pc := 51) dX12_readShip_51 (fun s8 => ?_)
  refine s_aload_n (pc := 52) 0 dX12_readShip_52 rfl ?_
  refine rg_209 hh (pc := 53) dX12_readShip_53 rfl ?_
  refine s_if_ne (tgt := 85) (pc := 56) dX12_readShip_56 (by decide) (fun _ => ?_) (fun _ => ?_)
  · refine s_aload_n (pc := 59) 0 dX12_readShip_59 rfl ?_
    refine s_callV (M := MX12_readShip) (As := []) (st := []) (Ψ := fun (x : Bool) => (some (.int (b2i x)), rH mo h s8)) cv_X12_188 (by decide) (pc := 60) dX12_readShip_60 r_0 (r_lt (k := 0) hh (by decide)) rfl (Nat.le_of_ble_eq_true rfl) (fun x hx => pX12_isLate_ok hh s8 x hx) rfl (fun x12 _ => ?_)
    refine s_if_eqB (tgt := 85) (pc := 63) dX12_readShip_63 (by decide) (fun _ => ?_) (fun _ => ?_)
    · refine s_aload_n (pc := 66) 0 dX12_readShip_66 rfl ?_
      refine s_callV (M := MX12_readShip) (As := []) (st := []) (Ψ := fun (x : RS) => (none, rH mo h x)) cv_X12_219 (by decide) (pc := 67) dX12_readShip_67 r_0 (r_lt (k := 0) hh (by decide)) rfl (Nat.le_of_ble_eq_true rfl) (fun x hx => pX12_next_ok hh s8 x hx) rfl (fun x13 _ => ?_)
      refine s_aload_n (pc := 70) 0 dX12_readShip_70 rfl ?_
      refine rg_35 hh (pc := 71) dX12_readShip_71 rfl ?_
      refine s_iload_n (pc := 74) 1 dX12_readShip_74 rfl ?_
      refine s_iconst (v := 3) (pc := 75) dX12_readShip_75 (by decide) ?_
      refine s_iadd (pc := 76) dX12_readShip_76 ?_
      refine s_aload_n (pc := 77) 0 dX12_readShip_77 rfl ?_
      refine s_iconst (v := 0) (pc := 78) dX12_readShip_78 (by decide) ?_
      refine s_bipush (v := 9) (pc := 79) dX12_readShip_79 (by decide) ?_
      refine s_callV (M := MX12_readShip) (As := [.int 0, .int 9]) (st := [.int (a0 + (3 : Int32)), .ref (mo + 5)]) (Ψ := fun (x : Int32 × RS) => (some (.int x.1), rH mo h x.2)) cv_X12_272 (by decide) (pc := 81) dX12_readShip_81 r_0 (r_lt (k := 0) hh (by decide)) rfl (Nat.le_of_ble_eq_true rfl) (fun x hx => pX12_count_ok hh x13 (0 : Int32) (9 : Int32) x hx) rfl (fun x14 _ => ?_)
      refine rs_4 hh (pc := 84) dX12_readShip_84 (fun s15 => ?_)
      exact X12_readShip_j85_ok hh a0 s15
    · exact X12_readShip_j85_ok hh a0 s8
  · exact X12_readShip_j85_ok hh a0 s8
theorem pX12_readShip_ok (hh : mo + 18 ≤ h.2.1) (s : RS) (a0 : Int32) : ∀ x, pX12_readShip s a0 = some x → aMet l 5 yX12_readShip cX12_readShip 2 none [.ref mo, .int a0] (rH mo h s) none (rH mo h x) := fun x hx => a_meth (ini := false) (y := yX12_readShip) (by decide +kernel) (fun q => by cases q) (fun _ => Nat.le_of_ble_eq_true rfl) (pX12_readShip_w hh s a0) x hx _ _ ⟨rfl, rfl⟩
end
section
variable {l : Launch} {n0 S0 : Nat} {mo : Nat} {h : aH}
abbrev MX12_readTest : aM := (cX12_readTest, RX12, 3, none, false)
def X12_readTest_j45 (v1 : Int32) (v2 : Int32) (k1 : Bool) (s : RS) : Option RS :=
  (pX12_must s k1).bind fun x4 =>
  g_in (v1 + (5 : Int32)) 1800 (thn (uA x4 4 (upd (x4.2.2.1 4) (v1 + (5 : Int32)).toNatClampNeg v2)) fun s5 =>
  if v2 = (2 : Int32) then
    (pX12_count s5 (0 : Int32) (999 : Int32)).bind fun x10 =>
    g_in (v1 + (1 : Int32)) 1800 (thn (uA x10.2 4 (upd (x10.2.2.2.1 4) (v1 + (1 : Int32)).toNatClampNeg x10.1)) fun s11 =>
    some s11)
  else
    if v2 < 0 then
      some s5
    else
      (pX12_readLogName s5 true).bind fun x6 =>
      g_in (v1 + (1 : Int32)) 1800 (thn (uA x6.2 4 (upd (x6.2.2.2.1 4) (v1 + (1 : Int32)).toNatClampNeg x6.1)) fun s7 =>
      if v2 = 0 then
        (pX12_readLogName s7 false).bind fun x8 =>
        g_in (v1 + (2 : Int32)) 1800 (thn (uA x8.2 4 (upd (x8.2.2.2.1 4) (v1 + (2 : Int32)).toNatClampNeg x8.1)) fun s9 =>
        some s9)
      else
        some s7))
theorem X12_readTest_j45_ok (hh : mo + 18 ≤ h.2.1) (v1 : Int32) (v2 : Int32) (k1 : Bool) (s : RS) : aS l 5 MX12_readTest n0 S0 (oΦ (fun (x : RS) => (none, rH mo h x))) 45 [(0, .ref mo), (1, .int v1), (2, .int v2)] [.int (b2i k1), .ref mo] (rH mo h s) (X12_readTest_j45 v1 v2 k1 s) := by
  unfold X12_readTest_j45
  refine s_callV (M := MX12_readTest) (As := [.int (b2i k1)]) (st := []) (Ψ := fun (x : RS) => (none, rH mo h x)) cv_X12_252 (by decide) (pc := 45) dX12_readTest_45 r_0 (r_lt (k := 0) hh (by decide)) rfl (Nat.le_of_ble_eq_true rfl) (fun x hx => pX12_must_ok hh s k1 x hx) rfl (fun x4 _ => ?_)
  refine s_aload_n (pc := 48) 0 dX12_readTest_48 rfl ?_
  refine rg_35 hh (pc := 49) dX12_readTest_49 rfl ?_
  refine s_iload_n (pc := 52) 1 dX12_readTest_52 rfl ?_
  refine s_iconst (v := 5) (pc := 53) dX12_readTest_53 (by decide) ?_
  refine s_iadd (pc := 54) dX12_readTest_54 ?_
  refine s_iload_n (pc := 55) 2 dX12_readTest_55 rfl ?_
  refine rs_4 hh (pc := 56) dX12_readTest_56 (fun s5 => ?_)
  refine s_iload_n (pc := 57) 2 dX12_readTest_57 rfl ?_
  refine s_iconst (v := 2) (pc := 58) dX12_readTest_58 (by decide) ?_
  refine s_icmp_ne (tgt := 81) (pc := 59) dX12_readTest_59 (by decide) (fun _ => ?_) (fun _ => ?_)
  · refine s_aload_n (pc := 62) 0 dX12_readTest_62 rfl ?_
    refine rg_35 hh (pc := 63) dX12_readTest_63 rfl ?_
    refine s_iload_n (pc := 66) 1 dX12_readTest_66 rfl ?_
    refine s_iconst (v := 1) (pc := 67) dX12_readTest_67 (by decide) ?_
    refine s_iadd (pc := 68) dX12_readTest_68 ?_
    refine s_aload_n (pc := 69) 0 dX12_readTest_69 rfl ?_
    refine s_iconst (v := 0) (pc := 70) dX12_readTest_70 (by decide) ?_
    refine s_sipush (v := 999) (pc := 71) dX12_readTest_71 (by decide) ?_
    refine s_callV (M := MX12_readTest) (As := [.int 0, .int 999]) (st := [.int (v1 + (1 : Int32)), .ref (mo + 5)]) (Ψ := fun (x : Int32 × RS) => (some (.int x.1), rH mo h x.2)) cv_X12_272 (by decide) (pc := 74) dX12_readTest_74 r_0 (r_lt (k := 0) hh (by decide)) rfl (Nat.le_of_ble_eq_true rfl) (fun x hx => pX12_count_ok hh s5 (0 : Int32) (999 : Int32) x hx) rfl (fun x10 _ => ?_)
    refine rs_4 hh (pc := 77) dX12_readTest_77 (fun s11 => ?_)
    refine s_goto (tgt := 115) (pc := 78) dX12_readTest_78 (by decide) ?_
    exact s_vret (pc := 115) dX12_readTest_115 rfl (fun _ _ q => q)
  · refine s_iload_n (pc := 81) 2 dX12_readTest_81 rfl ?_
    refine s_if_lt (tgt := 115) (pc := 82) dX12_readTest_82 (by decide) (fun _ => ?_) (fun _ => ?_)
    · exact s_vret (pc := 115) dX12_readTest_115 rfl (fun _ _ q => q)
    · refine s_aload_n (pc := 85) 0 dX12_readTest_85 rfl ?_
      refine rg_35 hh (pc := 86) dX12_readTest_86 rfl ?_
      refine s_iload_n (pc := 89) 1 dX12_readTest_89 rfl ?_
      refine s_iconst (v := 1) (pc := 90) dX12_readTest_90 (by decide) ?_
      refine s_iadd (pc := 91) dX12_readTest_91 ?_
      refine s_aload_n (pc := 92) 0 dX12_readTest_92 rfl ?_
      refine s_iconst (v := 1) (pc := 93) dX12_readTest_93 (by decide) ?_
      refine s_callV (M := MX12_readTest) (As := [.int 1]) (st := [.int (v1 + (1 : Int32)), .ref (mo + 5)]) (Ψ := fun (x : Int32 × RS) => (some (.int x.1), rH mo h x.2)) cv_X12_406 (by decide) (pc := 94) dX12_readTest_94 r_0 (r_lt (k := 0) hh (by decide)) rfl (Nat.le_of_ble_eq_true rfl) (fun x hx => pX12_readLogName_ok hh s5 true x hx) rfl (fun x6 _ => ?_)
      refine rs_4 hh (pc := 97) dX12_readTest_97 (fun s7 => ?_)
      refine s_iload_n (pc := 98) 2 dX12_readTest_98 rfl ?_
      refine s_if_ne (tgt := 115) (pc := 99) dX12_readTest_99 (by decide) (fun _ => ?_) (fun _ => ?_)
      · refine s_aload_n (pc := 102) 0 dX12_readTest_102 rfl ?_
        refine rg_35 hh (pc := 103) dX12_readTest_103 rfl ?_
        refine s_iload_n (pc := 106) 1 dX12_readTest_106 rfl ?_
        refine s_iconst (v := 2) (pc := 107) dX12_readTest_107 (by decide) ?_
        refine s_iadd (pc := 108) dX12_readTest_108 ?_
        refine s_aload_n (pc := 109) 0 dX12_readTest_109 rfl ?_
        refine s_iconst (v := 0) (pc := 110) dX12_readTest_110 (by decide) ?_
        refine s_callV (M := MX12_readTest) (As := [.int 0]) (st := [.int (v1 + (2 : Int32)), .ref (mo + 5)]) (Ψ := fun (x : Int32 × RS) => (some (.int x.1), rH mo h x.2)) cv_X12_406 (by decide) (pc := 111) dX12_readTest_111 r_0 (r_lt (k := 0) hh (by decide)) rfl (Nat.le_of_ble_eq_true rfl) (fun x hx => pX12_readLogName_ok hh s7 false x hx) rfl (fun x8 _ => ?_)
        refine rs_4 hh (pc := 114) dX12_readTest_114 (fun s9 => ?_)
        exact s_vret (pc := 115) dX12_readTest_115 rfl (fun _ _ q => q)
      · exact s_vret (pc := 115) dX12_readTest_115 rfl (fun _ _ q => q)
def X12_readTest_j34 (v1 : Int32) (k0 : Int32) (s : RS) : Option RS :=
  if k0 < 0 then
    X12_readTest_j45 v1 k0 false s
  else
    X12_readTest_j45 v1 k0 true s
theorem X12_readTest_j34_ok (hh : mo + 18 ≤ h.2.1) (v1 : Int32) (k0 : Int32) (s : RS) : aS l 5 MX12_readTest n0 S0 (oΦ (fun (x : RS) => (none, rH mo h x))) 34 [(0, .ref mo), (1, .int v1)] [.int k0] (rH mo h s) (X12_readTest_j34 v1 k0 s) := by
  unfold X12_readTest_j34
  refine s_istore_n (lv' := [(2, .int k0), (0, .ref mo), (1, .int v1)]) (pc := 34) dX12_readTest_34 (by decide) rfl ?_
  refine s_aload_n (pc := 35) 1 dX12_readTest_35 rfl ?_
  refine s_iload_n (pc := 36) 0 dX12_readTest_36 rfl ?_
  refine s_if_lt (tgt := 44) (pc := 37) dX12_readTest_37 (by decide) (fun _ => ?_) (fun _ => ?_)
  · refine s_iconst (v := 0) (pc := 44) dX12_readTest_44 (by decide) ?_
    refine s_sub [1, 2, 0] rfl ?_
    exact X12_readTest_j45_ok hh v1 k0 false s
  · refine s_iconst (v := 1) (pc := 40) dX12_readTest_40 (by decide) ?_
    refine s_goto (tgt := 45) (pc := 41) dX12_readTest_41 (by decide) ?_
    refine s_sub [1, 2, 0] rfl ?_
    exact X12_readTest_j45_ok hh v1 k0 true s
def pX12_readTest (s : RS) (a0 : Int32) : Option RS :=
  (pX12_isHas s).bind fun x1 =>
  if x1 = true then
    X12_readTest_j34 a0 (0 : Int32) s
  else
    (pX12_isQuietWord s).bind fun x2 =>
    if x2 = true then
      X12_readTest_j34 a0 (1 : Int32) s
    else
      (pX12_isDayWord s).bind fun x3 =>
      if x3 = true then
        X12_readTest_j34 a0 (2 : Int32) s
      else
        X12_readTest_j34 a0 (-1 : Int32) s
theorem pX12_readTest_w (hh : mo + 18 ≤ h.2.1) (s : RS) (a0 : Int32) : aS l 5 MX12_readTest n0 S0 (oΦ (fun (x : RS) => (none, rH mo h x))) 0 [(0, .ref mo), (1, .int a0)] [] (rH mo h s) (pX12_readTest s a0) := by
  unfold pX12_readTest
  refine s_aload_n (pc := 0) 0 dX12_readTest_0 rfl ?_
  refine s_callV (M := MX12_readTest) (As := []) (st := []) (Ψ := fun (x : Bool) => (some (.int (b2i x)), rH mo h s)) cv_X12_194 (by decide) (pc := 1) dX12_readTest_1 r_0 (r_lt (k := 0) hh (by decide)) rfl (Nat.le_of_ble_eq_true rfl) (fun x hx => pX12_isHas_ok hh s x hx) rfl (fun x1 _ => ?_)
  refine s_if_eqB (tgt := 11) (pc := 4) dX12_readTest_4 (by decide) (fun _ => ?_) (fun _ => ?_)
  · refine s_iconst (v := 0) (pc := 7) dX12_readTest_7 (by decide) ?_
    refine s_goto (tgt := 34) (pc := 8) dX12_readTest_8 (by decide) ?_
    exact X12_readTest_j34_ok hh a0 (0 : Int32) s
  · refine s_aload_n (pc := 11) 0 dX12_readTest_11 rfl ?_
    refine s_callV (M := MX12_readTest) (As := []) (st := []) (Ψ := fun (x : Bool) => (some (.int (b2i x)), rH mo h s)) cv_X12_197 (by decide) (pc := 12) dX12_readTest_12 r_0 (r_lt (k := 0) hh (by decide)) rfl (Nat.le_of_ble_eq_true rfl) (fun x hx => pX12_isQuietWord_ok hh s x hx) rfl (fun x2 _ => ?_)
    refine s_if_eqB (tgt := 22) (pc := 15) dX12_readTest_15 (by decide) (fun _ => ?_) (fun _ => ?_)
    · refine s_iconst (v := 1) (pc := 18) dX12_readTest_18 (by decide) ?_
      refine s_goto (tgt := 34) (pc := 19) dX12_readTest_19 (by decide) ?_
      exact X12_readTest_j34_ok hh a0 (1 : Int32) s
    · refine s_aload_n (pc := 22) 0 dX12_readTest_22 rfl ?_
      refine s_callV (M := MX12_readTest) (As := []) (st := []) (Ψ := fun (x : Bool) => (some (.int (b2i x)), rH mo h s)) cv_X12_200 (by decide) (pc := 23) dX12_readTest_23 r_0 (r_lt (k := 0) hh (by decide)) rfl (Nat.le_of_ble_eq_true rfl) (fun x hx => pX12_isDayWord_ok hh s x hx) rfl (fun x3 _ => ?_)
      refine s_if_eqB (tgt := 33) (pc := 26) dX12_readTest_26 (by decide) (fun _ => ?_) (fun _ => ?_)
      · refine s_iconst (v := 2) (pc := 29) dX12_readTest_29 (by decide) ?_
        refine s_goto (tgt := 34) (pc := 30) dX12_readTest_30 (by decide) ?_
        exact X12_readTest_j34_ok hh a0 (2 : Int32) s
      · refine s_iconst (v := (-1)) (pc := 33) dX12_readTest_33 (by decide) ?_
        exact X12_readTest_j34_ok hh a0 (-1 : Int32) s
theorem pX12_readTest_ok (hh : mo + 18 ≤ h.2.1) (s : RS) (a0 : Int32) : ∀ x, pX12_readTest s a0 = some x → aMet l 5 yX12_readTest cX12_readTest 3 none [.ref mo, .int a0] (rH mo h s) none (rH mo h x) := fun x hx => a_meth (ini := false) (y := yX12_readTest) (by decide +kernel) (fun q => by cases q) (fun _ => Nat.le_of_ble_eq_true rfl) (pX12_readTest_w hh s a0) x hx _ _ ⟨rfl, rfl⟩
end
section
variable {l : Launch} {n0 S0 : Nat} {mo : Nat} {h : aH}
abbrev MX12_readRest : aM := (cX12_readRest, RX12, 3, none, false)
def X12_readRest_j21 (v1 : Int32) (s : RS) : Option RS :=
  (pX12_readLogName s false).bind fun x2 =>
  g_in (v1 + (1 : Int32)) 1800 (thn (uA x2.2 4 (upd (x2.2.2.2.1 4) (v1 + (1 : Int32)).toNatClampNeg x2.1)) fun s3 =>
  (pX12_isAt s3).bind fun x4 =>
  (pX12_must s3 x4).bind fun x5 =>
  (pX12_readLogName x5 true).bind fun x6 =>
  g_in (v1 + (2 : Int32)) 1800 (thn (uA x6.2 4 (upd (x6.2.2.2.1 4) (v1 + (2 : Int32)).toNatClampNeg x6.1)) fun s7 =>
  some s7))
theorem X12_readRest_j21_ok (hh : mo + 18 ≤ h.2.1) (v1 : Int32) (s : RS) : aS l 6 MX12_readRest n0 S0 (oΦ (fun (x : RS) => (none, rH mo h x))) 21 [(0, .ref mo), (1, .int v1)] [] (rH mo h s) (X12_readRest_j21 v1 s) := by
  unfold X12_readRest_j21
  refine s_aload_n (pc := 21) 0 dX12_readRest_21 rfl ?_
  refine rg_35 hh (pc := 22) dX12_readRest_22 rfl ?_
  refine s_iload_n (pc := 25) 1 dX12_readRest_25 rfl ?_
  refine s_iconst (v := 1) (pc := 26) dX12_readRest_26 (by decide) ?_
  refine s_iadd (pc := 27) dX12_readRest_27 ?_
  refine s_aload_n (pc := 28) 0 dX12_readRest_28 rfl ?_
  refine s_iconst (v := 0) (pc := 29) dX12_readRest_29 (by decide) ?_
  refine s_callV (M := MX12_readRest) (As := [.int 0]) (st := [.int (v1 + (1 : Int32)), .ref (mo + 5)]) (Ψ := fun (x : Int32 × RS) => (some (.int x.1), rH mo h x.2)) cv_X12_406 (by decide) (pc := 30) dX12_readRest_30 r_0 (r_lt (k := 0) hh (by decide)) rfl (Nat.le_of_ble_eq_true rfl) (fun x hx => pX12_readLogName_ok hh s false x hx) rfl (fun x2 _ => ?_)
  refine rs_4 hh (pc := 33) dX12_readRest_33 (fun s3 => ?_)
  refine s_aload_n (pc := 34) 0 dX12_readRest_34 rfl ?_
  refine s_aload_n (pc := 35) 0 dX12_readRest_35 rfl ?_
  refine s_callV (M := MX12_readRest) (As := []) (st := [.ref mo]) (Ψ := fun (x : Bool) => (some (.int (b2i x)), rH mo h s3)) cv_X12_182 (by decide) (pc := 36) dX12_readRest_36 r_0 (r_lt (k := 0) hh (by decide)) rfl (Nat.le_of_ble_eq_true rfl) (fun x hx => pX12_isAt_ok hh s3 x hx) rfl (fun x4 _ => ?_)
  refine s_callV (M := MX12_readRest) (As := [.int (b2i x4)]) (st := []) (Ψ := fun (x : RS) => (none, rH mo h x)) cv_X12_252 (by decide) (pc := 39) dX12_readRest_39 r_0 (r_lt (k := 0) hh (by decide)) rfl (Nat.le_of_ble_eq_true rfl) (fun x hx => pX12_must_ok hh s3 x4 x hx) rfl (fun x5 _ => ?_)
  refine s_aload_n (pc := 42) 0 dX12_readRest_42 rfl ?_
  refine rg_35 hh (pc := 43) dX12_readRest_43 rfl ?_
  refine s_iload_n (pc := 46) 1 dX12_readRest_46 rfl ?_
  refine s_iconst (v := 2) (pc := 47) dX12_readRest_47 (by decide) ?_
  refine s_iadd (pc := 48) dX12_readRest_48 ?_
  refine s_aload_n (pc := 49) 0 dX12_readRest_49 rfl ?_
  refine s_iconst (v := 1) (pc := 50) dX12_readRest_50 (by decide) ?_
  refine s_callV (M := MX12_readRest) (As := [.int 1]) (st := [.int (v1 + (2 : Int32)), .ref (mo + 5)]) (Ψ := fun (x : Int32 × RS) => (some (.int x.1), rH mo h x.2)) cv_X12_406 (by decide) (pc := 51) dX12_readRest_51 r_0 (r_lt (k := 0) hh (by decide)) rfl (Nat.le_of_ble_eq_true rfl) (fun x hx => pX12_readLogName_ok hh x5 true x hx) rfl (fun x6 _ => ?_)
  refine rs_4 hh (pc := 54) dX12_readRest_54 (fun s7 => ?_)
  refine s_goto (tgt := 134) (pc := 55) dX12_readRest_55 (by decide) ?_
  exact s_vret (pc := 134) dX12_readRest_134 rfl (fun _ _ q => q)
def X12_readRest_j82 (v1 : Int32) (s : RS) : Option RS :=
  (pX12_count s (1 : Int32) (99 : Int32)).bind fun x8 =>
  g_in (v1 + (1 : Int32)) 1800 (thn (uA x8.2 4 (upd (x8.2.2.2.1 4) (v1 + (1 : Int32)).toNatClampNeg x8.1)) fun s9 =>
  some s9)
theorem X12_readRest_j82_ok (hh : mo + 18 ≤ h.2.1) (v1 : Int32) (s : RS) : aS l 6 MX12_readRest n0 S0 (oΦ (fun (x : RS) => (none, rH mo h x))) 82 [(0, .ref mo), (1, .int v1)] [] (rH mo h s) (X12_readRest_j82 v1 s) := by
  unfold X12_readRest_j82
  refine s_aload_n (pc := 82) 0 dX12_readRest_82 rfl ?_
  refine rg_35 hh (pc := 83) dX12_readRest_83 rfl ?_
  refine s_iload_n (pc := 86) 1 dX12_readRest_86 rfl ?_
  refine s_iconst (v := 1) (pc := 87) dX12_readRest_87 (by decide) ?_
  refine s_iadd (pc := 88) dX12_readRest_88 ?_
  refine s_aload_n (pc := 89) 0 dX12_readRest_89 rfl ?_
  refine s_iconst (v := 1) (pc := 90) dX12_readRest_90 (by decide) ?_
  refine s_bipush (v := 99) (pc := 91) dX12_readRest_91 (by decide) ?_
  refine s_callV (M := MX12_readRest) (As := [.int 1, .int 99]) (st := [.int (v1 + (1 : Int32)), .ref (mo + 5)]) (Ψ := fun (x : Int32 × RS) => (some (.int x.1), rH mo h x.2)) cv_X12_272 (by decide) (pc := 93) dX12_readRest_93 r_0 (r_lt (k := 0) hh (by decide)) rfl (Nat.le_of_ble_eq_true rfl) (fun x hx => pX12_count_ok hh s (1 : Int32) (99 : Int32) x hx) rfl (fun x8 _ => ?_)
  refine rs_4 hh (pc := 96) dX12_readRest_96 (fun s9 => ?_)
  refine s_goto (tgt := 134) (pc := 97) dX12_readRest_97 (by decide) ?_
  exact s_vret (pc := 134) dX12_readRest_134 rfl (fun _ _ q => q)
def pX12_readRest (s : RS) (a0 : Int32) : Option RS :=
  g_in a0 1800 (
  thn (s.2.2.1 4 a0.toNatClampNeg) fun x1 =>
  if x1 = 0 then
    X12_readRest_j21 a0 s
  else
    if x1 = (2 : Int32) then
      X12_readRest_j21 a0 s
    else
      if x1 = (3 : Int32) then
        X12_readRest_j21 a0 s
      else
        if x1 = (1 : Int32) then
          (pX12_readShip s a0).bind fun x13 =>
          some x13
        else
          if x1 = (4 : Int32) then
            X12_readRest_j82 a0 s
          else
            if x1 = (7 : Int32) then
              X12_readRest_j82 a0 s
            else
              if x1 = (5 : Int32) then
                (pX12_count s (0 : Int32) (16 : Int32)).bind fun x11 =>
                g_in (a0 + (1 : Int32)) 1800 (thn (uA x11.2 4 (upd (x11.2.2.2.1 4) (a0 + (1 : Int32)).toNatClampNeg x11.1)) fun s12 =>
                some s12)
              else
                if x1 = (6 : Int32) then
                  (pX12_readTest s a0).bind fun x10 =>
                  some x10
                else
                  some s)
theorem pX12_readRest_w (hh : mo + 18 ≤ h.2.1) (s : RS) (a0 : Int32) : aS l 6 MX12_readRest n0 S0 (oΦ (fun (x : RS) => (none, rH mo h x))) 0 [(0, .ref mo), (1, .int a0)] [] (rH mo h s) (pX12_readRest s a0) := by
  unfold pX12_readRest
  refine s_aload_n (pc := 0) 0 dX12_readRest_0 rfl ?_
  refine rg_35 hh (pc := 1) dX12_readRest_1 rfl ?_
  refine s_iload_n (pc := 4) 1 dX12_readRest_4 rfl ?_
  refine rl_4 hh (pc := 5) dX12_readRest_5 ?_
  refine s_istore_nT (lv' := fun x1 => [(2, .int x1), (0, .ref mo), (1, .int a0)]) (pc := 6) dX12_readRest_6 (by decide) (fun _ => rfl) (fun x1 => ?_)
  refine s_iload_n (pc := 7) 0 dX12_readRest_7 rfl ?_
  refine s_if_eq (tgt := 21) (pc := 8) dX12_readRest_8 (by decide) (fun _ => ?_) (fun _ => ?_)
  · refine s_sub [1, 2] rfl ?_
    exact X12_readRest_j21_ok hh a0 s
  · refine s_iload_n (pc := 11) 0 dX12_readRest_11 rfl ?_
    refine s_iconst (v := 2) (pc := 12) dX12_readRest_12 (by decide) ?_
    refine s_icmp_eq (tgt := 21) (pc := 13) dX12_readRest_13 (by decide) (fun _ => ?_) (fun _ => ?_)
    · refine s_sub [1, 2] rfl ?_
      exact X12_readRest_j21_ok hh a0 s
    · refine s_iload_n (pc := 16) 0 dX12_readRest_16 rfl ?_
      refine s_iconst (v := 3) (pc := 17) dX12_readRest_17 (by decide) ?_
      refine s_icmp_ne (tgt := 58) (pc := 18) dX12_readRest_18 (by decide) (fun _ => ?_) (fun _ => ?_)
      · refine s_sub [1, 2] rfl ?_
        exact X12_readRest_j21_ok hh a0 s
      · refine s_iload_n (pc := 58) 0 dX12_readRest_58 rfl ?_
        refine s_iconst (v := 1) (pc := 59) dX12_readRest_59 (by decide) ?_
        refine s_icmp_ne (tgt := 71) (pc := 60) dX12_readRest_60 (by decide) (fun _ => ?_) (fun _ => ?_)
        · refine s_aload_n (pc := 63) 1 dX12_readRest_63 rfl ?_
          refine s_iload_n (pc := 64) 2 dX12_readRest_64 rfl ?_
          refine s_callV (M := MX12_readRest) (As := [.int a0]) (st := []) (Ψ := fun (x : RS) => (none, rH mo h x)) cv_X12_410 (by decide) (pc := 65) dX12_readRest_65 r_0 (r_lt (k := 0) hh (by decide)) rfl (Nat.le_of_ble_eq_true rfl) (fun x hx => pX12_readShip_ok hh s a0 x hx) rfl (fun x13 _ => ?_)
          refine s_goto (tgt := 134) (pc := 68) dX12_readRest_68 (by decide) ?_
          exact s_vret (pc := 134) dX12_readRest_134 rfl (fun _ _ q => q)
        · refine s_iload_n (pc := 71) 0 dX12_readRest_71 rfl ?_
          refine s_iconst (v := 4) (pc := 72) dX12_readRest_72 (by decide) ?_
          refine s_icmp_eq (tgt := 82) (pc := 73) dX12_readRest_73 (by decide) (fun _ => ?_) (fun _ => ?_)
          · refine s_sub [1, 2] rfl ?_
            exact X12_readRest_j82_ok hh a0 s
          · refine s_iload_n (pc := 76) 0 dX12_readRest_76 rfl ?_
            refine s_bipush (v := 7) (pc := 77) dX12_readRest_77 (by decide) ?_
            refine s_icmp_ne (tgt := 100) (pc := 79) dX12_readRest_79 (by decide) (fun _ => ?_) (fun _ => ?_)
            · refine s_sub [1, 2] rfl ?_
              exact X12_readRest_j82_ok hh a0 s
            · refine s_iload_n (pc := 100) 0 dX12_readRest_100 rfl ?_
              refine s_iconst (v := 5) (pc := 101) dX12_readRest_101 (by decide) ?_
              refine s_icmp_ne (tgt := 123) (pc := 102) dX12_readRest_102 (by decide) (fun _ => ?_) (fun _ => ?_)
              · refine s_aload_n (pc := 105) 1 dX12_readRest_105 rfl ?_
                refine rg_35 hh (pc := 106) dX12_readRest_106 rfl ?_
                refine s_iload_n (pc := 109) 2 dX12_readRest_109 rfl ?_
                refine s_iconst (v := 1) (pc := 110) dX12_readRest_110 (by decide) ?_
                refine s_iadd (pc := 111) dX12_readRest_111 ?_
                refine s_aload_n (pc := 112) 1 dX12_readRest_112 rfl ?_
                refine s_iconst (v := 0) (pc := 113) dX12_readRest_113 (by decide) ?_
                refine s_bipush (v := 16) (pc := 114) dX12_readRest_114 (by decide) ?_
                refine s_callV (M := MX12_readRest) (As := [.int 0, .int 16]) (st := [.int (a0 + (1 : Int32)), .ref (mo + 5)]) (Ψ := fun (x : Int32 × RS) => (some (.int x.1), rH mo h x.2)) cv_X12_272 (by decide) (pc := 116) dX12_readRest_116 r_0 (r_lt (k := 0) hh (by decide)) rfl (Nat.le_of_ble_eq_true rfl) (fun x hx => pX12_count_ok hh s (0 : Int32) (16 : Int32) x hx) rfl (fun x11 _ => ?_)
                refine rs_4 hh (pc := 119) dX12_readRest_119 (fun s12 => ?_)
                refine s_goto (tgt := 134) (pc := 120) dX12_readRest_120 (by decide) ?_
                exact s_vret (pc := 134) dX12_readRest_134 rfl (fun _ _ q => q)
              · refine s_iload_n (pc := 123) 0 dX12_readRest_123 rfl ?_
                refine s_bipush (v := 6) (pc := 124) dX12_readRest_124 (by decide) ?_
                refine s_icmp_ne (tgt := 134) (pc := 126) dX12_readRest_126 (by decide) (fun _ => ?_) (fun _ => ?_)
                · refine s_aload_n (pc := 129) 1 dX12_readRest_129 rfl ?_
                  refine s_iload_n (pc := 130) 2 dX12_readRest_130 rfl ?_
                  refine s_callV (M := MX12_readRest) (As := [.int a0]) (st := []) (Ψ := fun (x : RS) => (none, rH mo h x)) cv_X12_413 (by decide) (pc := 131) dX12_readRest_131 r_0 (r_lt (k := 0) hh (by decide)) rfl (Nat.le_of_ble_eq_true rfl) (fun x hx => pX12_readTest_ok hh s a0 x hx) rfl (fun x10 _ => ?_)
                  exact s_vret (pc := 134) dX12_readRest_134 rfl (fun _ _ q => q)
                · exact s_vret (pc := 134) dX12_readRest_134 rfl (fun _ _ q => q)
theorem pX12_readRest_ok (hh : mo + 18 ≤ h.2.1) (s : RS) (a0 : Int32) : ∀ x, pX12_readRest s a0 = some x → aMet l 6 yX12_readRest cX12_readRest 3 none [.ref mo, .int a0] (rH mo h s) none (rH mo h x) := fun x hx => a_meth (ini := false) (y := yX12_readRest) (by decide +kernel) (fun q => by cases q) (fun _ => Nat.le_of_ble_eq_true rfl) (pX12_readRest_w hh s a0) x hx _ _ ⟨rfl, rfl⟩
end
section
variable {l : Launch} {n0 S0 : Nat} {mo : Nat} {h : aH} {dr : Nat}
abbrev MX12_readStep : aM := (cX12_readStep, RX12, 5, none, false)
def X12_readStep_x140 (l : Launch) (n0 S0 : Nat) (dr : Nat) (mo : Nat) (h : aH) (v1 : Int32) (v3 : Bool) (v4 : Int32) : RS → Option Value → aH → Prop := fun (x : RS) r h' => aEv l (dr + 7) MX12_readStep n0 S0 168 [(0, .ref mo), (3, .int (b2i v3)), (4, .int v4)] [] (rH mo h x) r h'
def X12_readStep_b140 (rc : RS → Int32 → Option RS) (v1 : Int32) (v3 : Bool) (v4 : Int32) (s : RS) : Option (RS ⊕ RS) :=
  if v3 = true then
    if (s.1 12) = 0 then
      (pX12_isEnd s).bind fun x9 =>
      if x9 = true then
        some (.inr s)
      else
        (rc s (v1 + (1 : Int32))).bind fun x10 =>
        some (.inl x10)
    else
      some (.inr s)
  else
    some (.inr s)
theorem X12_readStep_b140_ok (hh : mo + 18 ≤ h.2.1) {rc : RS → Int32 → Option RS} (hrc : ∀ (s : RS) (a0 : Int32) x, rc s a0 = some x → aMet l dr yX12_readStep cX12_readStep 5 none [.ref mo, .int a0] (rH mo h s) none (rH mo h x)) (v1 : Int32) (v3 : Bool) (v4 : Int32) (s : RS) : aS l (dr + 7) MX12_readStep n0 S0 (a_LΦ (X12_readStep_x140 l n0 S0 dr mo h v1 v3 v4) l (dr + 7) MX12_readStep n0 S0 140 (fun (q : RS) => [(0, .ref mo), (1, .int v1), (3, .int (b2i v3)), (4, .int v4)]) (fun _ => []) (fun (q : RS) => rH mo h q)) 140 [(0, .ref mo), (1, .int v1), (3, .int (b2i v3)), (4, .int v4)] [] (rH mo h s) (X12_readStep_b140 rc v1 v3 v4 s) := by
  unfold X12_readStep_b140
  refine s_iload_n (pc := 140) 2 dX12_readStep_140 rfl ?_
  refine s_if_eqB (tgt := 168) (pc := 141) dX12_readStep_141 (by decide) (fun _ => ?_) (fun _ => ?_)
  · refine s_aload_n (pc := 144) 0 dX12_readStep_144 rfl ?_
    refine rg_209 hh (pc := 145) dX12_readStep_145 rfl ?_
    refine s_if_ne (tgt := 168) (pc := 148) dX12_readStep_148 (by decide) (fun _ => ?_) (fun _ => ?_)
    · refine s_aload_n (pc := 151) 0 dX12_readStep_151 rfl ?_
      refine s_callV (M := MX12_readStep) (As := []) (st := []) (Ψ := fun (x : Bool) => (some (.int (b2i x)), rH mo h s)) cv_X12_203 (by omega) (pc := 152) dX12_readStep_152 r_0 (r_lt (k := 0) hh (by decide)) rfl (Nat.le_of_ble_eq_true rfl) (fun x hx => pX12_isEnd_ok hh s x hx) rfl (fun x9 _ => ?_)
      refine s_if_neB (tgt := 168) (pc := 155) dX12_readStep_155 (by decide) (fun _ => ?_) (fun _ => ?_)
      · refine s_sub [0, 2, 3] rfl ?_
        exact s_ev (fun _ _ q => q)
      · refine s_aload_n (pc := 158) 0 dX12_readStep_158 rfl ?_
        refine s_iload_n (pc := 159) 1 dX12_readStep_159 rfl ?_
        refine s_iconst (v := 1) (pc := 160) dX12_readStep_160 (by decide) ?_
        refine s_iadd (pc := 161) dX12_readStep_161 ?_
        refine s_callV (M := MX12_readStep) (As := [.int (v1 + (1 : Int32))]) (st := []) (Ψ := fun (x : RS) => (none, rH mo h x)) cv_X12_422 (by omega) (pc := 162) dX12_readStep_162 r_0 (r_lt (k := 0) hh (by decide)) rfl (Nat.le_of_ble_eq_true rfl) (fun x hx => hrc s (v1 + (1 : Int32)) x hx) rfl (fun x10 _ => ?_)
        refine s_goto (tgt := 140) (pc := 165) dX12_readStep_165 (by decide) ?_
        exact s_ev (fun _ _ q => q)
    · refine s_sub [0, 2, 3] rfl ?_
      exact s_ev (fun _ _ q => q)
  · refine s_sub [0, 2, 3] rfl ?_
    exact s_ev (fun _ _ q => q)
def X12_readStep_j188 (rc : RS → Int32 → Option RS) (v4 : Int32) (s : RS) : Option RS :=
  g_in (v4 + (6 : Int32)) 1800 (thn (uA s 4 (upd (s.2.2.1 4) (v4 + (6 : Int32)).toNatClampNeg (s.1 46))) fun s12 =>
  some s12)
theorem X12_readStep_j188_ok (hh : mo + 18 ≤ h.2.1) {rc : RS → Int32 → Option RS} (hrc : ∀ (s : RS) (a0 : Int32) x, rc s a0 = some x → aMet l dr yX12_readStep cX12_readStep 5 none [.ref mo, .int a0] (rH mo h s) none (rH mo h x)) (v4 : Int32) (s : RS) : aS l (dr + 7) MX12_readStep n0 S0 (oΦ (fun (x : RS) => (none, rH mo h x))) 188 [(0, .ref mo), (4, .int v4)] [] (rH mo h s) (X12_readStep_j188 rc v4 s) := by
  unfold X12_readStep_j188
  refine s_aload_n (pc := 188) 0 dX12_readStep_188 rfl ?_
  refine rg_35 hh (pc := 189) dX12_readStep_189 rfl ?_
  refine s_iload (pc := 192) 1 dX12_readStep_192 rfl ?_
  refine s_bipush (v := 6) (pc := 194) dX12_readStep_194 (by decide) ?_
  refine s_iadd (pc := 196) dX12_readStep_196 ?_
  refine s_aload_n (pc := 197) 0 dX12_readStep_197 rfl ?_
  refine rg_416 hh (pc := 198) dX12_readStep_198 rfl ?_
  refine rs_4 hh (pc := 201) dX12_readStep_201 (fun s12 => ?_)
  exact s_vret (pc := 202) dX12_readStep_202 rfl (fun _ _ q => q)
def X12_readStep_j168 (rc : RS → Int32 → Option RS) (v3 : Bool) (v4 : Int32) (s : RS) : Option RS :=
  if v3 = true then
    (pX12_isEnd s).bind fun x13 =>
    (pX12_must s x13).bind fun x14 =>
    (pX12_isClose x14).bind fun x15 =>
    (pX12_must x14 x15).bind fun x16 =>
    X12_readStep_j188 rc v4 x16
  else
    X12_readStep_j188 rc v4 s
theorem X12_readStep_j168_ok (hh : mo + 18 ≤ h.2.1) {rc : RS → Int32 → Option RS} (hrc : ∀ (s : RS) (a0 : Int32) x, rc s a0 = some x → aMet l dr yX12_readStep cX12_readStep 5 none [.ref mo, .int a0] (rH mo h s) none (rH mo h x)) (v3 : Bool) (v4 : Int32) (s : RS) : aS l (dr + 7) MX12_readStep n0 S0 (oΦ (fun (x : RS) => (none, rH mo h x))) 168 [(0, .ref mo), (3, .int (b2i v3)), (4, .int v4)] [] (rH mo h s) (X12_readStep_j168 rc v3 v4 s) := by
  unfold X12_readStep_j168
  refine s_iload_n (pc := 168) 1 dX12_readStep_168 rfl ?_
  refine s_if_eqB (tgt := 188) (pc := 169) dX12_readStep_169 (by decide) (fun _ => ?_) (fun _ => ?_)
  · refine s_aload_n (pc := 172) 0 dX12_readStep_172 rfl ?_
    refine s_aload_n (pc := 173) 0 dX12_readStep_173 rfl ?_
    refine s_callV (M := MX12_readStep) (As := []) (st := [.ref mo]) (Ψ := fun (x : Bool) => (some (.int (b2i x)), rH mo h s)) cv_X12_203 (by omega) (pc := 174) dX12_readStep_174 r_0 (r_lt (k := 0) hh (by decide)) rfl (Nat.le_of_ble_eq_true rfl) (fun x hx => pX12_isEnd_ok hh s x hx) rfl (fun x13 _ => ?_)
    refine s_callV (M := MX12_readStep) (As := [.int (b2i x13)]) (st := []) (Ψ := fun (x : RS) => (none, rH mo h x)) cv_X12_252 (by omega) (pc := 177) dX12_readStep_177 r_0 (r_lt (k := 0) hh (by decide)) rfl (Nat.le_of_ble_eq_true rfl) (fun x hx => pX12_must_ok hh s x13 x hx) rfl (fun x14 _ => ?_)
    refine s_aload_n (pc := 180) 0 dX12_readStep_180 rfl ?_
    refine s_aload_n (pc := 181) 0 dX12_readStep_181 rfl ?_
    refine s_callV (M := MX12_readStep) (As := []) (st := [.ref mo]) (Ψ := fun (x : Bool) => (some (.int (b2i x)), rH mo h x14)) cv_X12_293 (by omega) (pc := 182) dX12_readStep_182 r_0 (r_lt (k := 0) hh (by decide)) rfl (Nat.le_of_ble_eq_true rfl) (fun x hx => pX12_isClose_ok hh x14 x hx) rfl (fun x15 _ => ?_)
    refine s_callV (M := MX12_readStep) (As := [.int (b2i x15)]) (st := []) (Ψ := fun (x : RS) => (none, rH mo h x)) cv_X12_252 (by omega) (pc := 185) dX12_readStep_185 r_0 (r_lt (k := 0) hh (by decide)) rfl (Nat.le_of_ble_eq_true rfl) (fun x hx => pX12_must_ok hh x14 x15 x hx) rfl (fun x16 _ => ?_)
    refine s_sub [0, 2] rfl ?_
    exact X12_readStep_j188_ok hh hrc v4 x16
  · refine s_sub [0, 2] rfl ?_
    exact X12_readStep_j188_ok hh hrc v4 s
def X12_readStep_j83 (rc : RS → Int32 → Option RS) (v1 : Int32) (v2 : Int32) (v3 : Bool) (s : RS) : Option RS :=
  if (s.1 12) ≤ 0 then
    thn ((1577 : Int32) + ((7 : Int32) * (s.1 46))) fun x2 =>
    thn (uI s 46 ((s.1 46) + (1 : Int32))) fun s3 =>
    (pX12_next s3).bind fun x4 =>
    g_in x2 1800 (thn (uA x4 4 (upd (x4.2.2.1 4) x2.toNatClampNeg v2)) fun s5 =>
    (pX12_readRest s5 x2).bind fun x6 =>
    (pX12_isClose x6).bind fun x7 =>
    (pX12_must x6 x7).bind fun x8 =>
    (a_loop (fun (q : RS) => X12_readStep_b140 rc v1 v3 x2 q) FU x8).bind fun (t11 : RS) =>
      X12_readStep_j168 rc v3 x2 t11)
  else
    some s
theorem X12_readStep_j83_ok (hh : mo + 18 ≤ h.2.1) {rc : RS → Int32 → Option RS} (hrc : ∀ (s : RS) (a0 : Int32) x, rc s a0 = some x → aMet l dr yX12_readStep cX12_readStep 5 none [.ref mo, .int a0] (rH mo h s) none (rH mo h x)) (v1 : Int32) (v2 : Int32) (v3 : Bool) (s : RS) : aS l (dr + 7) MX12_readStep n0 S0 (oΦ (fun (x : RS) => (none, rH mo h x))) 83 [(0, .ref mo), (1, .int v1), (2, .int v2), (3, .int (b2i v3))] [] (rH mo h s) (X12_readStep_j83 rc v1 v2 v3 s) := by
  unfold X12_readStep_j83
  refine s_aload_n (pc := 83) 0 dX12_readStep_83 rfl ?_
  refine rg_209 hh (pc := 84) dX12_readStep_84 rfl ?_
  refine s_if_le (tgt := 91) (pc := 87) dX12_readStep_87 (by decide) (fun _ => ?_) (fun _ => ?_)
  · refine s_sipush (v := 1577) (pc := 91) dX12_readStep_91 (by decide) ?_
    refine s_bipush (v := 7) (pc := 94) dX12_readStep_94 (by decide) ?_
    refine s_aload_n (pc := 96) 0 dX12_readStep_96 rfl ?_
    refine rg_416 hh (pc := 97) dX12_readStep_97 rfl ?_
    refine s_imul (pc := 100) dX12_readStep_100 ?_
    refine s_iadd (pc := 101) dX12_readStep_101 ?_
    refine s_istoreT (lv' := fun x2 => [(4, .int x2), (0, .ref mo), (1, .int v1), (2, .int v2), (3, .int (b2i v3))]) (pc := 102) dX12_readStep_102 (by decide) (fun _ => rfl) (fun x2 => ?_)
    refine s_aload_n (pc := 104) 1 dX12_readStep_104 rfl ?_
    refine s_dup (pc := 105) dX12_readStep_105 rfl ?_
    refine rg_416 hh (pc := 106) dX12_readStep_106 rfl ?_
    refine s_iconst (v := 1) (pc := 109) dX12_readStep_109 (by decide) ?_
    refine s_iadd (pc := 110) dX12_readStep_110 ?_
    refine rp_416 hh (pc := 111) dX12_readStep_111 rfl (fun s3 => ?_)
    refine s_aload_n (pc := 114) 1 dX12_readStep_114 rfl ?_
    refine s_callV (M := MX12_readStep) (As := []) (st := []) (Ψ := fun (x : RS) => (none, rH mo h x)) cv_X12_219 (by omega) (pc := 115) dX12_readStep_115 r_0 (r_lt (k := 0) hh (by decide)) rfl (Nat.le_of_ble_eq_true rfl) (fun x hx => pX12_next_ok hh s3 x hx) rfl (fun x4 _ => ?_)
    refine s_aload_n (pc := 118) 1 dX12_readStep_118 rfl ?_
    refine rg_35 hh (pc := 119) dX12_readStep_119 rfl ?_
    refine s_iload (pc := 122) 0 dX12_readStep_122 rfl ?_
    refine s_iload_n (pc := 124) 3 dX12_readStep_124 rfl ?_
    refine rs_4 hh (pc := 125) dX12_readStep_125 (fun s5 => ?_)
    refine s_aload_n (pc := 126) 1 dX12_readStep_126 rfl ?_
    refine s_iload (pc := 127) 0 dX12_readStep_127 rfl ?_
    refine s_callV (M := MX12_readStep) (As := [.int x2]) (st := []) (Ψ := fun (x : RS) => (none, rH mo h x)) cv_X12_419 (by omega) (pc := 129) dX12_readStep_129 r_0 (r_lt (k := 0) hh (by decide)) rfl (Nat.le_of_ble_eq_true rfl) (fun x hx => pX12_readRest_ok hh s5 x2 x hx) rfl (fun x6 _ => ?_)
    refine s_aload_n (pc := 132) 1 dX12_readStep_132 rfl ?_
    refine s_aload_n (pc := 133) 1 dX12_readStep_133 rfl ?_
    refine s_callV (M := MX12_readStep) (As := []) (st := [.ref mo]) (Ψ := fun (x : Bool) => (some (.int (b2i x)), rH mo h x6)) cv_X12_293 (by omega) (pc := 134) dX12_readStep_134 r_0 (r_lt (k := 0) hh (by decide)) rfl (Nat.le_of_ble_eq_true rfl) (fun x hx => pX12_isClose_ok hh x6 x hx) rfl (fun x7 _ => ?_)
    refine s_callV (M := MX12_readStep) (As := [.int (b2i x7)]) (st := []) (Ψ := fun (x : RS) => (none, rH mo h x)) cv_X12_252 (by omega) (pc := 137) dX12_readStep_137 r_0 (r_lt (k := 0) hh (by decide)) rfl (Nat.le_of_ble_eq_true rfl) (fun x hx => pX12_must_ok hh x6 x7 x hx) rfl (fun x8 _ => ?_)
    refine s_bind (Ψ := X12_readStep_x140 l n0 S0 dr mo h v1 v3 x2) ?_ ?_
    · refine s_sub [1, 2, 4, 0] rfl ?_
      exact s_loop (lvf := fun (q : RS) => [(0, .ref mo), (1, .int v1), (3, .int (b2i v3)), (4, .int x2)]) (stf := fun _ => []) (hf := fun (q : RS) => rH mo h q) (fun q => X12_readStep_b140_ok hh hrc v1 v3 x2 q) FU x8
    · intro t11 z r h' hz hr
      refine (?_ : aS l (dr + 7) MX12_readStep n0 S0 (oΦ (fun (x : RS) => (none, rH mo h x))) 168 [(0, .ref mo), (3, .int (b2i v3)), (4, .int x2)] [] (rH mo h t11) _) z hz r h' hr
      exact X12_readStep_j168_ok hh hrc v3 x2 t11
  · exact s_vret (pc := 90) dX12_readStep_90 rfl (fun _ _ q => q)
def X12_readStep_j57 (rc : RS → Int32 → Option RS) (v1 : Int32) (v2 : Int32) (v3 : Bool) (s : RS) : Option RS :=
  if (s.1 12) = 0 then
    if v3 = true then
      if v1 = (3 : Int32) then
        (pX12_fail s (7 : Int32) (s.1 15)).bind fun x17 =>
        X12_readStep_j83 rc v1 v2 v3 x17
      else
        X12_readStep_j83 rc v1 v2 v3 s
    else
      X12_readStep_j83 rc v1 v2 v3 s
  else
    X12_readStep_j83 rc v1 v2 v3 s
theorem X12_readStep_j57_ok (hh : mo + 18 ≤ h.2.1) {rc : RS → Int32 → Option RS} (hrc : ∀ (s : RS) (a0 : Int32) x, rc s a0 = some x → aMet l dr yX12_readStep cX12_readStep 5 none [.ref mo, .int a0] (rH mo h s) none (rH mo h x)) (v1 : Int32) (v2 : Int32) (v3 : Bool) (s : RS) : aS l (dr + 7) MX12_readStep n0 S0 (oΦ (fun (x : RS) => (none, rH mo h x))) 57 [(0, .ref mo), (1, .int v1), (2, .int v2), (3, .int (b2i v3))] [] (rH mo h s) (X12_readStep_j57 rc v1 v2 v3 s) := by
  unfold X12_readStep_j57
  refine s_aload_n (pc := 57) 0 dX12_readStep_57 rfl ?_
  refine rg_209 hh (pc := 58) dX12_readStep_58 rfl ?_
  refine s_if_ne (tgt := 83) (pc := 61) dX12_readStep_61 (by decide) (fun _ => ?_) (fun _ => ?_)
  · refine s_iload_n (pc := 64) 3 dX12_readStep_64 rfl ?_
    refine s_if_eqB (tgt := 83) (pc := 65) dX12_readStep_65 (by decide) (fun _ => ?_) (fun _ => ?_)
    · refine s_iload_n (pc := 68) 1 dX12_readStep_68 rfl ?_
      refine s_iconst (v := 3) (pc := 69) dX12_readStep_69 (by decide) ?_
      refine s_icmp_ne (tgt := 83) (pc := 70) dX12_readStep_70 (by decide) (fun _ => ?_) (fun _ => ?_)
      · refine s_aload_n (pc := 73) 0 dX12_readStep_73 rfl ?_
        refine s_bipush (v := 7) (pc := 74) dX12_readStep_74 (by decide) ?_
        refine s_aload_n (pc := 76) 0 dX12_readStep_76 rfl ?_
        refine rg_120 hh (pc := 77) dX12_readStep_77 rfl ?_
        refine s_callV (M := MX12_readStep) (As := [.int 7, .int (s.1 15)]) (st := []) (Ψ := fun (x : RS) => (none, rH mo h x)) cv_X12_215 (by omega) (pc := 80) dX12_readStep_80 r_0 (r_lt (k := 0) hh (by decide)) rfl (Nat.le_of_ble_eq_true rfl) (fun x hx => pX12_fail_ok hh s (7 : Int32) (s.1 15) x hx) rfl (fun x17 _ => ?_)
        exact X12_readStep_j83_ok hh hrc v1 v2 v3 x17
      · exact X12_readStep_j83_ok hh hrc v1 v2 v3 s
    · exact X12_readStep_j83_ok hh hrc v1 v2 v3 s
  · exact X12_readStep_j83_ok hh hrc v1 v2 v3 s
def X12_readStep_j31 (rc : RS → Int32 → Option RS) (v1 : Int32) (v2 : Int32) (v3 : Bool) (s : RS) : Option RS :=
  if (s.1 12) = 0 then
    if (s.1 46) = (30 : Int32) then
      (pX12_fail s (6 : Int32) (s.1 15)).bind fun x18 =>
      X12_readStep_j57 rc v1 v2 v3 x18
    else
      X12_readStep_j57 rc v1 v2 v3 s
  else
    X12_readStep_j57 rc v1 v2 v3 s
theorem X12_readStep_j31_ok (hh : mo + 18 ≤ h.2.1) {rc : RS → Int32 → Option RS} (hrc : ∀ (s : RS) (a0 : Int32) x, rc s a0 = some x → aMet l dr yX12_readStep cX12_readStep 5 none [.ref mo, .int a0] (rH mo h s) none (rH mo h x)) (v1 : Int32) (v2 : Int32) (v3 : Bool) (s : RS) : aS l (dr + 7) MX12_readStep n0 S0 (oΦ (fun (x : RS) => (none, rH mo h x))) 31 [(0, .ref mo), (1, .int v1), (2, .int v2), (3, .int (b2i v3))] [] (rH mo h s) (X12_readStep_j31 rc v1 v2 v3 s) := by
  unfold X12_readStep_j31
  refine s_aload_n (pc := 31) 0 dX12_readStep_31 rfl ?_
  refine rg_209 hh (pc := 32) dX12_readStep_32 rfl ?_
  refine s_if_ne (tgt := 57) (pc := 35) dX12_readStep_35 (by decide) (fun _ => ?_) (fun _ => ?_)
  · refine s_aload_n (pc := 38) 0 dX12_readStep_38 rfl ?_
    refine rg_416 hh (pc := 39) dX12_readStep_39 rfl ?_
    refine s_bipush (v := 30) (pc := 42) dX12_readStep_42 (by decide) ?_
    refine s_icmp_ne (tgt := 57) (pc := 44) dX12_readStep_44 (by decide) (fun _ => ?_) (fun _ => ?_)
    · refine s_aload_n (pc := 47) 0 dX12_readStep_47 rfl ?_
      refine s_bipush (v := 6) (pc := 48) dX12_readStep_48 (by decide) ?_
      refine s_aload_n (pc := 50) 0 dX12_readStep_50 rfl ?_
      refine rg_120 hh (pc := 51) dX12_readStep_51 rfl ?_
      refine s_callV (M := MX12_readStep) (As := [.int 6, .int (s.1 15)]) (st := []) (Ψ := fun (x : RS) => (none, rH mo h x)) cv_X12_215 (by omega) (pc := 54) dX12_readStep_54 r_0 (r_lt (k := 0) hh (by decide)) rfl (Nat.le_of_ble_eq_true rfl) (fun x hx => pX12_fail_ok hh s (6 : Int32) (s.1 15) x hx) rfl (fun x18 _ => ?_)
      exact X12_readStep_j57_ok hh hrc v1 v2 v3 x18
    · exact X12_readStep_j57_ok hh hrc v1 v2 v3 s
  · exact X12_readStep_j57_ok hh hrc v1 v2 v3 s
def X12_readStep_j22 (rc : RS → Int32 → Option RS) (v1 : Int32) (v2 : Int32) (k0 : Bool) (s : RS) : Option RS :=
  if 0 ≤ v2 then
    X12_readStep_j31 rc v1 v2 k0 s
  else
    (pX12_wrong s).bind fun x19 =>
    X12_readStep_j31 rc v1 v2 k0 x19
theorem X12_readStep_j22_ok (hh : mo + 18 ≤ h.2.1) {rc : RS → Int32 → Option RS} (hrc : ∀ (s : RS) (a0 : Int32) x, rc s a0 = some x → aMet l dr yX12_readStep cX12_readStep 5 none [.ref mo, .int a0] (rH mo h s) none (rH mo h x)) (v1 : Int32) (v2 : Int32) (k0 : Bool) (s : RS) : aS l (dr + 7) MX12_readStep n0 S0 (oΦ (fun (x : RS) => (none, rH mo h x))) 22 [(0, .ref mo), (1, .int v1), (2, .int v2)] [.int (b2i k0)] (rH mo h s) (X12_readStep_j22 rc v1 v2 k0 s) := by
  unfold X12_readStep_j22
  refine s_istore_n (lv' := [(3, .int (b2i k0)), (0, .ref mo), (1, .int v1), (2, .int v2)]) (pc := 22) dX12_readStep_22 (by decide) rfl ?_
  refine s_iload_n (pc := 23) 3 dX12_readStep_23 rfl ?_
  refine s_if_ge (tgt := 31) (pc := 24) dX12_readStep_24 (by decide) (fun _ => ?_) (fun _ => ?_)
  · refine s_sub [1, 2, 3, 0] rfl ?_
    exact X12_readStep_j31_ok hh hrc v1 v2 k0 s
  · refine s_aload_n (pc := 27) 1 dX12_readStep_27 rfl ?_
    refine s_callV (M := MX12_readStep) (As := []) (st := []) (Ψ := fun (x : RS) => (none, rH mo h x)) cv_X12_222 (by omega) (pc := 28) dX12_readStep_28 r_0 (r_lt (k := 0) hh (by decide)) rfl (Nat.le_of_ble_eq_true rfl) (fun x hx => pX12_wrong_ok hh s x hx) rfl (fun x19 _ => ?_)
    refine s_sub [1, 2, 3, 0] rfl ?_
    exact X12_readStep_j31_ok hh hrc v1 v2 k0 x19
def X12_readStep_j17 (rc : RS → Int32 → Option RS) (v1 : Int32) (v2 : Int32) (s : RS) : Option RS :=
  X12_readStep_j22 rc v1 v2 true s
theorem X12_readStep_j17_ok (hh : mo + 18 ≤ h.2.1) {rc : RS → Int32 → Option RS} (hrc : ∀ (s : RS) (a0 : Int32) x, rc s a0 = some x → aMet l dr yX12_readStep cX12_readStep 5 none [.ref mo, .int a0] (rH mo h s) none (rH mo h x)) (v1 : Int32) (v2 : Int32) (s : RS) : aS l (dr + 7) MX12_readStep n0 S0 (oΦ (fun (x : RS) => (none, rH mo h x))) 17 [(0, .ref mo), (1, .int v1), (2, .int v2)] [] (rH mo h s) (X12_readStep_j17 rc v1 v2 s) := by
  unfold X12_readStep_j17
  refine s_iconst (v := 1) (pc := 17) dX12_readStep_17 (by decide) ?_
  refine s_goto (tgt := 22) (pc := 18) dX12_readStep_18 (by decide) ?_
  exact X12_readStep_j22_ok hh hrc v1 v2 true s
def pX12_readStep_f (rc : RS → Int32 → Option RS) (s : RS) (a0 : Int32) : Option RS :=
  (pX12_stepWord s).bind fun x1 =>
  if x1 = (6 : Int32) then
    X12_readStep_j17 rc a0 x1 s
  else
    if x1 = (7 : Int32) then
      X12_readStep_j17 rc a0 x1 s
    else
      X12_readStep_j22 rc a0 x1 false s
theorem pX12_readStep_f_w (hh : mo + 18 ≤ h.2.1) {rc : RS → Int32 → Option RS} (hrc : ∀ (s : RS) (a0 : Int32) x, rc s a0 = some x → aMet l dr yX12_readStep cX12_readStep 5 none [.ref mo, .int a0] (rH mo h s) none (rH mo h x)) (s : RS) (a0 : Int32) : aS l (dr + 7) MX12_readStep n0 S0 (oΦ (fun (x : RS) => (none, rH mo h x))) 0 [(0, .ref mo), (1, .int a0)] [] (rH mo h s) (pX12_readStep_f rc s a0) := by
  unfold pX12_readStep_f
  refine s_aload_n (pc := 0) 0 dX12_readStep_0 rfl ?_
  refine s_callV (M := MX12_readStep) (As := []) (st := []) (Ψ := fun (x : Int32) => (some (.int x), rH mo h s)) cv_X12_179 (by omega) (pc := 1) dX12_readStep_1 r_0 (r_lt (k := 0) hh (by decide)) rfl (Nat.le_of_ble_eq_true rfl) (fun x hx => pX12_stepWord_ok hh s x hx) rfl (fun x1 _ => ?_)
  refine s_istore_n (lv' := [(2, .int x1), (0, .ref mo), (1, .int a0)]) (pc := 4) dX12_readStep_4 (by decide) rfl ?_
  refine s_iload_n (pc := 5) 0 dX12_readStep_5 rfl ?_
  refine s_bipush (v := 6) (pc := 6) dX12_readStep_6 (by decide) ?_
  refine s_icmp_eq (tgt := 17) (pc := 8) dX12_readStep_8 (by decide) (fun _ => ?_) (fun _ => ?_)
  · refine s_sub [1, 2, 0] rfl ?_
    exact X12_readStep_j17_ok hh hrc a0 x1 s
  · refine s_iload_n (pc := 11) 0 dX12_readStep_11 rfl ?_
    refine s_bipush (v := 7) (pc := 12) dX12_readStep_12 (by decide) ?_
    refine s_icmp_ne (tgt := 21) (pc := 14) dX12_readStep_14 (by decide) (fun _ => ?_) (fun _ => ?_)
    · refine s_sub [1, 2, 0] rfl ?_
      exact X12_readStep_j17_ok hh hrc a0 x1 s
    · refine s_iconst (v := 0) (pc := 21) dX12_readStep_21 (by decide) ?_
      refine s_sub [1, 2, 0] rfl ?_
      exact X12_readStep_j22_ok hh hrc a0 x1 false s
theorem pX12_readStep_f_ok (hh : mo + 18 ≤ h.2.1) {rc : RS → Int32 → Option RS} (hrc : ∀ (s : RS) (a0 : Int32) x, rc s a0 = some x → aMet l dr yX12_readStep cX12_readStep 5 none [.ref mo, .int a0] (rH mo h s) none (rH mo h x)) (s : RS) (a0 : Int32) : ∀ x, pX12_readStep_f rc s a0 = some x → aMet l (dr + 7) yX12_readStep cX12_readStep 5 none [.ref mo, .int a0] (rH mo h s) none (rH mo h x) := fun x hx => a_meth (ini := false) (y := yX12_readStep) (by decide +kernel) (fun q => by cases q) (fun _ => Nat.le_of_ble_eq_true rfl) (pX12_readStep_f_w hh hrc s a0) x hx _ _ ⟨rfl, rfl⟩
def pX12_readStep : Nat → RS → Int32 → Option RS
  | 0 => fun _ _ => none
  | n + 1 => fun s a0 => pX12_readStep_f (pX12_readStep n) s a0
theorem pX12_readStep_ok (hh : mo + 18 ≤ h.2.1) : ∀ n : Nat, ∀ (s : RS) (a0 : Int32) x, pX12_readStep n s a0 = some x → aMet l (7 * n) yX12_readStep cX12_readStep 5 none [.ref mo, .int a0] (rH mo h s) none (rH mo h x)
  | 0 => fun _ _ x hx => by cases hx
  | n + 1 => fun s a0 x hx => by
    have := pX12_readStep_f_ok (dr := 7 * n) hh (pX12_readStep_ok hh n) s a0 x hx
    exact this
end
section
variable {l : Launch} {n0 S0 : Nat} {mo : Nat} {h : aH}
abbrev MX12_log : aM := (cX12_log, RX12, 3, (some .int), false)
def X12_log_x28 (l : Launch) (n0 S0 : Nat) (mo : Nat) (h : aH) : RS → Option Value → aH → Prop := fun (x : RS) r h' => aEv l 141 MX12_log n0 S0 50 [(0, .ref mo)] [] (rH mo h x) r h'
def X12_log_b28 (s : RS) : Option (RS ⊕ RS) :=
  if (s.1 12) = 0 then
    if (s.1 14) = 0 then
      some (.inr s)
    else
      (pX12_readStep 20 s (0 : Int32)).bind fun x5 =>
      some (.inl x5)
  else
    some (.inr s)
theorem X12_log_b28_ok (hh : mo + 18 ≤ h.2.1) (s : RS) : aS l 141 MX12_log n0 S0 (a_LΦ (X12_log_x28 l n0 S0 mo h) l 141 MX12_log n0 S0 28 (fun (q : RS) => [(0, .ref mo)]) (fun _ => []) (fun (q : RS) => rH mo h q)) 28 [(0, .ref mo)] [] (rH mo h s) (X12_log_b28 s) := by
  unfold X12_log_b28
  refine s_aload_n (pc := 28) 0 dX12_log_28 rfl ?_
  refine rg_209 hh (pc := 29) dX12_log_29 rfl ?_
  refine s_if_ne (tgt := 50) (pc := 32) dX12_log_32 (by decide) (fun _ => ?_) (fun _ => ?_)
  · refine s_aload_n (pc := 35) 0 dX12_log_35 rfl ?_
    refine rg_126 hh (pc := 36) dX12_log_36 rfl ?_
    refine s_if_eq (tgt := 50) (pc := 39) dX12_log_39 (by decide) (fun _ => ?_) (fun _ => ?_)
    · exact s_ev (fun _ _ q => q)
    · refine s_aload_n (pc := 42) 0 dX12_log_42 rfl ?_
      refine s_iconst (v := 0) (pc := 43) dX12_log_43 (by decide) ?_
      refine s_callV (M := MX12_log) (As := [.int 0]) (st := []) (Ψ := fun (x : RS) => (none, rH mo h x)) cv_X12_422 (by decide) (pc := 44) dX12_log_44 r_0 (r_lt (k := 0) hh (by decide)) rfl (Nat.le_of_ble_eq_true rfl) (fun x hx => pX12_readStep_ok hh 20 s (0 : Int32) x hx) rfl (fun x5 _ => ?_)
      refine s_goto (tgt := 28) (pc := 47) dX12_log_47 (by decide) ?_
      exact s_ev (fun _ _ q => q)
  · exact s_ev (fun _ _ q => q)
def X12_log_x82 (l : Launch) (n0 S0 : Nat) (mo : Nat) (h : aH) : RS → Option Value → aH → Prop := fun (x : RS) r h' => aEv l 141 MX12_log n0 S0 119 [(0, .ref mo)] [] (rH mo h x) r h'
def X12_log_b82 (v2 : Int32) (s : RS) : Option ((Int32 × RS) ⊕ RS) :=
  if ((7 : Int32) * (s.1 46)) ≤ v2 then
    some (.inr s)
  else
    g_in ((1577 : Int32) + v2) 1800 (
    g_in ((137 : Int32) + v2) 1800 (thn (uA s 4 (upd (s.2.2.1 4) ((137 : Int32) + v2).toNatClampNeg (s.2.2.1 4 ((1577 : Int32) + v2).toNatClampNeg))) fun s10 =>
    thn (v2 + 1) fun x11 =>
    some (.inl (x11, s10))))
theorem X12_log_b82_ok (hh : mo + 18 ≤ h.2.1) (v2 : Int32) (s : RS) : aS l 141 MX12_log n0 S0 (a_LΦ (X12_log_x82 l n0 S0 mo h) l 141 MX12_log n0 S0 82 (fun (q : Int32 × RS) => [(0, .ref mo), (2, .int q.1)]) (fun _ => []) (fun (q : Int32 × RS) => rH mo h q.2)) 82 [(0, .ref mo), (2, .int v2)] [] (rH mo h s) (X12_log_b82 v2 s) := by
  unfold X12_log_b82
  refine s_iload_n (pc := 82) 1 dX12_log_82 rfl ?_
  refine s_bipush (v := 7) (pc := 83) dX12_log_83 (by decide) ?_
  refine s_aload_n (pc := 85) 0 dX12_log_85 rfl ?_
  refine rg_416 hh (pc := 86) dX12_log_86 rfl ?_
  refine s_imul (pc := 89) dX12_log_89 ?_
  refine s_icmp_ge (tgt := 119) (pc := 90) dX12_log_90 (by decide) (fun _ => ?_) (fun _ => ?_)
  · refine s_sub [0] rfl ?_
    exact s_ev (fun _ _ q => q)
  · refine s_aload_n (pc := 93) 0 dX12_log_93 rfl ?_
    refine rg_35 hh (pc := 94) dX12_log_94 rfl ?_
    refine s_sipush (v := 137) (pc := 97) dX12_log_97 (by decide) ?_
    refine s_iload_n (pc := 100) 1 dX12_log_100 rfl ?_
    refine s_iadd (pc := 101) dX12_log_101 ?_
    refine s_aload_n (pc := 102) 0 dX12_log_102 rfl ?_
    refine rg_35 hh (pc := 103) dX12_log_103 rfl ?_
    refine s_sipush (v := 1577) (pc := 106) dX12_log_106 (by decide) ?_
    refine s_iload_n (pc := 109) 1 dX12_log_109 rfl ?_
    refine s_iadd (pc := 110) dX12_log_110 ?_
    refine rl_4 hh (pc := 111) dX12_log_111 ?_
    refine rs_4 hh (pc := 112) dX12_log_112 (fun s10 => ?_)
    refine s_iincT (pc := 113) 1 (lv' := fun x11 => [(2, .int x11), (0, .ref mo)]) dX12_log_113 rfl rfl (by decide) (fun _ => rfl) (fun x11 => ?_)
    refine s_goto (tgt := 82) (pc := 116) dX12_log_116 (by decide) ?_
    refine s_sub [1, 0] rfl ?_
    exact s_ev (fun _ _ q => q)
def X12_log_j50 (s : RS) : Option (Int32 × RS) :=
  (pX12_isWell s).bind fun x7 =>
  if x7.1 = true then
    g_in (135 : Int32) 1800 (thn (uA x7.2 4 (upd (x7.2.2.2.1 4) (135 : Int32).toNatClampNeg (1 : Int32))) fun s8 =>
    g_in (136 : Int32) 1800 (thn (uA s8 4 (upd (s8.2.2.1 4) (136 : Int32).toNatClampNeg (s8.1 46))) fun s9 =>
    (a_loop (fun (q : Int32 × RS) => X12_log_b82 q.1 q.2) FU ((0 : Int32), s9)).bind fun (t12 : RS) =>
      some ((t12.1 46), t12)))
  else
    some ((-1 : Int32), x7.2)
theorem X12_log_j50_ok (hh : mo + 18 ≤ h.2.1) (s : RS) : aS l 141 MX12_log n0 S0 (oΦ (fun (x : Int32 × RS) => (some (.int x.1), rH mo h x.2))) 50 [(0, .ref mo)] [] (rH mo h s) (X12_log_j50 s) := by
  unfold X12_log_j50
  refine s_aload_n (pc := 50) 0 dX12_log_50 rfl ?_
  refine s_callV (M := MX12_log) (As := []) (st := []) (Ψ := fun (x : Bool × RS) => (some (.int (b2i x.1)), rH mo h x.2)) cv_X12_296 (by decide) (pc := 51) dX12_log_51 r_0 (r_lt (k := 0) hh (by decide)) rfl (Nat.le_of_ble_eq_true rfl) (fun x hx => pX12_isWell_ok hh s x hx) rfl (fun x7 _ => ?_)
  refine s_if_neB (tgt := 59) (pc := 54) dX12_log_54 (by decide) (fun _ => ?_) (fun _ => ?_)
  · refine s_aload_n (pc := 59) 0 dX12_log_59 rfl ?_
    refine rg_35 hh (pc := 60) dX12_log_60 rfl ?_
    refine s_sipush (v := 135) (pc := 63) dX12_log_63 (by decide) ?_
    refine s_iconst (v := 1) (pc := 66) dX12_log_66 (by decide) ?_
    refine rs_4 hh (pc := 67) dX12_log_67 (fun s8 => ?_)
    refine s_aload_n (pc := 68) 0 dX12_log_68 rfl ?_
    refine rg_35 hh (pc := 69) dX12_log_69 rfl ?_
    refine s_sipush (v := 136) (pc := 72) dX12_log_72 (by decide) ?_
    refine s_aload_n (pc := 75) 0 dX12_log_75 rfl ?_
    refine rg_416 hh (pc := 76) dX12_log_76 rfl ?_
    refine rs_4 hh (pc := 79) dX12_log_79 (fun s9 => ?_)
    refine s_iconst (v := 0) (pc := 80) dX12_log_80 (by decide) ?_
    refine s_istore_n (lv' := [(2, .int 0), (0, .ref mo)]) (pc := 81) dX12_log_81 (by decide) rfl ?_
    refine s_bind (Ψ := X12_log_x82 l n0 S0 mo h) ?_ ?_
    · refine s_sub [1, 0] rfl ?_
      exact s_loop (lvf := fun (q : Int32 × RS) => [(0, .ref mo), (2, .int q.1)]) (stf := fun _ => []) (hf := fun (q : Int32 × RS) => rH mo h q.2) (fun q => X12_log_b82_ok hh q.1 q.2) FU ((0 : Int32), s9)
    · intro t12 z r h' hz hr
      refine (?_ : aS l 141 MX12_log n0 S0 (oΦ (fun (x : Int32 × RS) => (some (.int x.1), rH mo h x.2))) 119 [(0, .ref mo)] [] (rH mo h t12) _) z hz r h' hr
      refine s_aload_n (pc := 119) 0 dX12_log_119 rfl ?_
      refine rg_416 hh (pc := 120) dX12_log_120 rfl ?_
      exact s_iret (pc := 123) dX12_log_123 rfl (fun _ _ q => q)
  · refine s_iconst (v := (-1)) (pc := 57) dX12_log_57 (by decide) ?_
    exact s_iret (pc := 58) dX12_log_58 rfl (fun _ _ q => q)
def pX12_log (s : RS) (a0 : Int32) : Option (Int32 × RS) :=
  thn (uI s 1 (0 : Int32)) fun s1 =>
  thn (uI s1 0 (0 : Int32)) fun s2 =>
  (pX12_opens s2 a0 (300 : Int32)).bind fun x3 =>
  if x3.1 = true then
    thn (uI x3.2 46 (0 : Int32)) fun s4 =>
    (a_loop (fun (q : RS) => X12_log_b28 q) FU s4).bind fun (t6 : RS) =>
      X12_log_j50 t6
  else
    some ((-1 : Int32), x3.2)
theorem pX12_log_w (hh : mo + 18 ≤ h.2.1) (s : RS) (a0 : Int32) : aS l 141 MX12_log n0 S0 (oΦ (fun (x : Int32 × RS) => (some (.int x.1), rH mo h x.2))) 0 [(0, .ref mo), (1, .int a0)] [] (rH mo h s) (pX12_log s a0) := by
  unfold pX12_log
  refine s_aload_n (pc := 0) 0 dX12_log_0 rfl ?_
  refine s_iconst (v := 0) (pc := 1) dX12_log_1 (by decide) ?_
  refine rp_75 hh (pc := 2) dX12_log_2 rfl (fun s1 => ?_)
  refine s_aload_n (pc := 5) 0 dX12_log_5 rfl ?_
  refine s_iconst (v := 0) (pc := 6) dX12_log_6 (by decide) ?_
  refine rp_78 hh (pc := 7) dX12_log_7 rfl (fun s2 => ?_)
  refine s_aload_n (pc := 10) 0 dX12_log_10 rfl ?_
  refine s_iload_n (pc := 11) 1 dX12_log_11 rfl ?_
  refine s_sipush (v := 300) (pc := 12) dX12_log_12 (by decide) ?_
  refine s_callV (M := MX12_log) (As := [.int a0, .int 300]) (st := []) (Ψ := fun (x : Bool × RS) => (some (.int (b2i x.1)), rH mo h x.2)) cv_X12_284 (by decide) (pc := 15) dX12_log_15 r_0 (r_lt (k := 0) hh (by decide)) rfl (Nat.le_of_ble_eq_true rfl) (fun x hx => pX12_opens_ok hh s2 a0 (300 : Int32) x hx) rfl (fun x3 _ => ?_)
  refine s_if_neB (tgt := 23) (pc := 18) dX12_log_18 (by decide) (fun _ => ?_) (fun _ => ?_)
  · refine s_aload_n (pc := 23) 0 dX12_log_23 rfl ?_
    refine s_iconst (v := 0) (pc := 24) dX12_log_24 (by decide) ?_
    refine rp_416 hh (pc := 25) dX12_log_25 rfl (fun s4 => ?_)
    refine s_bind (Ψ := X12_log_x28 l n0 S0 mo h) ?_ ?_
    · refine s_sub [0] rfl ?_
      exact s_loop (lvf := fun (q : RS) => [(0, .ref mo)]) (stf := fun _ => []) (hf := fun (q : RS) => rH mo h q) (fun q => X12_log_b28_ok hh q) FU s4
    · intro t6 z r h' hz hr
      refine (?_ : aS l 141 MX12_log n0 S0 (oΦ (fun (x : Int32 × RS) => (some (.int x.1), rH mo h x.2))) 50 [(0, .ref mo)] [] (rH mo h t6) _) z hz r h' hr
      exact X12_log_j50_ok hh t6
  · refine s_iconst (v := (-1)) (pc := 21) dX12_log_21 (by decide) ?_
    exact s_iret (pc := 22) dX12_log_22 rfl (fun _ _ q => q)
theorem pX12_log_ok (hh : mo + 18 ≤ h.2.1) (s : RS) (a0 : Int32) : ∀ x, pX12_log s a0 = some x → aMet l 141 yX12_log cX12_log 3 (some .int) [.ref mo, .int a0] (rH mo h s) (some (.int x.1)) (rH mo h x.2) := fun x hx => a_meth (ini := false) (y := yX12_log) (by decide +kernel) (fun q => by cases q) (fun _ => Nat.le_of_ble_eq_true rfl) (pX12_log_w hh s a0) x hx _ _ ⟨rfl, rfl⟩
end
section
variable {l : Launch} {n0 S0 : Nat} {mo : Nat} {h : aH}
abbrev MX12_draw : aM := (cX12_draw, RX12, 1, (some .int), false)
def pX12_draw (s : RS) : Option (Int32 × RS) :=
  thn (uI s 37 ((((s.1 37) * (2749 : Int32)) + (9733 : Int32)) - (((s.1 37) * (2749 : Int32)) + (9733 : Int32)) / (65536 : Int32) * (65536 : Int32))) fun s1 =>
  some ((((s1.1 37) / (8 : Int32)) - ((s1.1 37) / (8 : Int32)) / (16 : Int32) * (16 : Int32)), s1)
theorem pX12_draw_w (hh : mo + 18 ≤ h.2.1) (s : RS) : aS l 0 MX12_draw n0 S0 (oΦ (fun (x : Int32 × RS) => (some (.int x.1), rH mo h x.2))) 0 [(0, .ref mo)] [] (rH mo h s) (pX12_draw s) := by
  unfold pX12_draw
  refine s_aload_n (pc := 0) 0 dX12_draw_0 rfl ?_
  refine s_aload_n (pc := 1) 0 dX12_draw_1 rfl ?_
  refine rg_425 hh (pc := 2) dX12_draw_2 rfl ?_
  refine s_sipush (v := 2749) (pc := 5) dX12_draw_5 (by decide) ?_
  refine s_imul (pc := 8) dX12_draw_8 ?_
  refine s_sipush (v := 9733) (pc := 9) dX12_draw_9 (by decide) ?_
  refine s_iadd (pc := 12) dX12_draw_12 ?_
  refine s_ldc (v := 65536) (pc := 13) dX12_draw_13 wk_X12_47 ?_
  refine s_iremC (pc := 15) dX12_draw_15 (by decide) ?_
  refine rp_425 hh (pc := 16) dX12_draw_16 rfl (fun s1 => ?_)
  refine s_aload_n (pc := 19) 0 dX12_draw_19 rfl ?_
  refine rg_425 hh (pc := 20) dX12_draw_20 rfl ?_
  refine s_bipush (v := 8) (pc := 23) dX12_draw_23 (by decide) ?_
  refine s_idivC (pc := 25) dX12_draw_25 (by decide) ?_
  refine s_bipush (v := 16) (pc := 26) dX12_draw_26 (by decide) ?_
  refine s_iremC (pc := 28) dX12_draw_28 (by decide) ?_
  exact s_iret (pc := 29) dX12_draw_29 rfl (fun _ _ q => q)
theorem pX12_draw_ok (hh : mo + 18 ≤ h.2.1) (s : RS) : ∀ x, pX12_draw s = some x → aMet l 0 yX12_draw cX12_draw 1 (some .int) [.ref mo] (rH mo h s) (some (.int x.1)) (rH mo h x.2) := fun x hx => a_meth (ini := false) (y := yX12_draw) (by decide +kernel) (fun q => by cases q) (fun _ => Nat.le_of_ble_eq_true rfl) (pX12_draw_w hh s) x hx _ _ ⟨rfl, rfl⟩
end
section
variable {l : Launch} {n0 S0 : Nat} {mo : Nat} {h : aH}
abbrev MX12_comes : aM := (cX12_comes, RX12, 3, none, false)
def pX12_comes (s : RS) (a0 : Int32) (a1 : Int32) : Option RS :=
  g_in ((114 : Int32) + a0) 1800 (
  g_in ((114 : Int32) + a0) 1800 (thn (uA s 4 (upd (s.2.2.1 4) ((114 : Int32) + a0).toNatClampNeg ((s.2.2.1 4 ((114 : Int32) + a0).toNatClampNeg) ||| a1))) fun s1 =>
  thn (uI s1 41 ((s1.1 41) + (1 : Int32))) fun s2 =>
  some s2))
theorem pX12_comes_w (hh : mo + 18 ≤ h.2.1) (s : RS) (a0 : Int32) (a1 : Int32) : aS l 0 MX12_comes n0 S0 (oΦ (fun (x : RS) => (none, rH mo h x))) 0 [(0, .ref mo), (1, .int a0), (2, .int a1)] [] (rH mo h s) (pX12_comes s a0 a1) := by
  unfold pX12_comes
  refine s_aload_n (pc := 0) 0 dX12_comes_0 rfl ?_
  refine rg_35 hh (pc := 1) dX12_comes_1 rfl ?_
  refine s_bipush (v := 114) (pc := 4) dX12_comes_4 (by decide) ?_
  refine s_iload_n (pc := 6) 1 dX12_comes_6 rfl ?_
  refine s_iadd (pc := 7) dX12_comes_7 ?_
  refine s_dup2_11 (pc := 8) dX12_comes_8 rfl rfl ?_
  refine rl_4 hh (pc := 9) dX12_comes_9 ?_
  refine s_iload_n (pc := 10) 2 dX12_comes_10 rfl ?_
  refine s_ior (pc := 11) dX12_comes_11 ?_
  refine rs_4 hh (pc := 12) dX12_comes_12 (fun s1 => ?_)
  refine s_aload_n (pc := 13) 0 dX12_comes_13 rfl ?_
  refine s_dup (pc := 14) dX12_comes_14 rfl ?_
  refine rg_428 hh (pc := 15) dX12_comes_15 rfl ?_
  refine s_iconst (v := 1) (pc := 18) dX12_comes_18 (by decide) ?_
  refine s_iadd (pc := 19) dX12_comes_19 ?_
  refine rp_428 hh (pc := 20) dX12_comes_20 rfl (fun s2 => ?_)
  exact s_vret (pc := 23) dX12_comes_23 rfl (fun _ _ q => q)
theorem pX12_comes_ok (hh : mo + 18 ≤ h.2.1) (s : RS) (a0 : Int32) (a1 : Int32) : ∀ x, pX12_comes s a0 a1 = some x → aMet l 0 yX12_comes cX12_comes 3 none [.ref mo, .int a0, .int a1] (rH mo h s) none (rH mo h x) := fun x hx => a_meth (ini := false) (y := yX12_comes) (by decide +kernel) (fun q => by cases q) (fun _ => Nat.le_of_ble_eq_true rfl) (pX12_comes_w hh s a0 a1) x hx _ _ ⟨rfl, rfl⟩
end
section
variable {l : Launch} {n0 S0 : Nat} {mo : Nat} {h : aH}
abbrev MX12_load : aM := (cX12_load, RX12, 4, none, false)
def pX12_load (s : RS) (a0 : Int32) (a1 : Int32) (a2 : Int32) : Option RS :=
  g_in (s.1 35) 20 (thn (uA s 10 (upd (s.2.2.1 10) (s.1 35).toNatClampNeg a0)) fun s1 =>
  g_in (s1.1 35) 20 (thn (uA s1 11 (upd (s1.2.2.1 11) (s1.1 35).toNatClampNeg a1)) fun s2 =>
  g_in (s2.1 35) 20 (thn (uA s2 12 (upd (s2.2.2.1 12) (s2.1 35).toNatClampNeg a2)) fun s3 =>
  g_in (s3.1 35) 20 (thn (uA s3 13 (upd (s3.2.2.1 13) (s3.1 35).toNatClampNeg (s3.1 36))) fun s4 =>
  thn (uI s4 35 ((s4.1 35) + (1 : Int32))) fun s5 =>
  some s5))))
theorem pX12_load_w (hh : mo + 18 ≤ h.2.1) (s : RS) (a0 : Int32) (a1 : Int32) (a2 : Int32) : aS l 0 MX12_load n0 S0 (oΦ (fun (x : RS) => (none, rH mo h x))) 0 [(0, .ref mo), (1, .int a0), (2, .int a1), (3, .int a2)] [] (rH mo h s) (pX12_load s a0 a1 a2) := by
  unfold pX12_load
  refine s_aload_n (pc := 0) 0 dX12_load_0 rfl ?_
  refine rg_54 hh (pc := 1) dX12_load_1 rfl ?_
  refine s_aload_n (pc := 4) 0 dX12_load_4 rfl ?_
  refine rg_431 hh (pc := 5) dX12_load_5 rfl ?_
  refine s_iload_n (pc := 8) 1 dX12_load_8 rfl ?_
  refine rs_10 hh (pc := 9) dX12_load_9 (fun s1 => ?_)
  refine s_aload_n (pc := 10) 0 dX12_load_10 rfl ?_
  refine rg_57 hh (pc := 11) dX12_load_11 rfl ?_
  refine s_aload_n (pc := 14) 0 dX12_load_14 rfl ?_
  refine rg_431 hh (pc := 15) dX12_load_15 rfl ?_
  refine s_iload_n (pc := 18) 2 dX12_load_18 rfl ?_
  refine rs_11 hh (pc := 19) dX12_load_19 (fun s2 => ?_)
  refine s_aload_n (pc := 20) 0 dX12_load_20 rfl ?_
  refine rg_60 hh (pc := 21) dX12_load_21 rfl ?_
  refine s_aload_n (pc := 24) 0 dX12_load_24 rfl ?_
  refine rg_431 hh (pc := 25) dX12_load_25 rfl ?_
  refine s_iload_n (pc := 28) 3 dX12_load_28 rfl ?_
  refine rs_12 hh (pc := 29) dX12_load_29 (fun s3 => ?_)
  refine s_aload_n (pc := 30) 0 dX12_load_30 rfl ?_
  refine rg_63 hh (pc := 31) dX12_load_31 rfl ?_
  refine s_aload_n (pc := 34) 0 dX12_load_34 rfl ?_
  refine rg_431 hh (pc := 35) dX12_load_35 rfl ?_
  refine s_aload_n (pc := 38) 0 dX12_load_38 rfl ?_
  refine rg_437 hh (pc := 39) dX12_load_39 rfl ?_
  refine rs_13 hh (pc := 42) dX12_load_42 (fun s4 => ?_)
  refine s_aload_n (pc := 43) 0 dX12_load_43 rfl ?_
  refine s_dup (pc := 44) dX12_load_44 rfl ?_
  refine rg_431 hh (pc := 45) dX12_load_45 rfl ?_
  refine s_iconst (v := 1) (pc := 48) dX12_load_48 (by decide) ?_
  refine s_iadd (pc := 49) dX12_load_49 ?_
  refine rp_431 hh (pc := 50) dX12_load_50 rfl (fun s5 => ?_)
  exact s_vret (pc := 53) dX12_load_53 rfl (fun _ _ q => q)
theorem pX12_load_ok (hh : mo + 18 ≤ h.2.1) (s : RS) (a0 : Int32) (a1 : Int32) (a2 : Int32) : ∀ x, pX12_load s a0 a1 a2 = some x → aMet l 0 yX12_load cX12_load 4 none [.ref mo, .int a0, .int a1, .int a2] (rH mo h s) none (rH mo h x) := fun x hx => a_meth (ini := false) (y := yX12_load) (by decide +kernel) (fun q => by cases q) (fun _ => Nat.le_of_ble_eq_true rfl) (pX12_load_w hh s a0 a1 a2) x hx _ _ ⟨rfl, rfl⟩
end
section
variable {l : Launch} {n0 S0 : Nat} {mo : Nat} {h : aH}
abbrev MX12_doShip : aM := (cX12_doShip, RX12, 7, none, false)
def X12_doShip_j82 (s : RS) : Option RS :=
  thn (uI s 40 ((s.1 40) + (1 : Int32))) fun s6 =>
  some s6
theorem X12_doShip_j82_ok (hh : mo + 18 ≤ h.2.1) (s : RS) : aS l 2 MX12_doShip n0 S0 (oΦ (fun (x : RS) => (none, rH mo h x))) 82 [(0, .ref mo)] [] (rH mo h s) (X12_doShip_j82 s) := by
  unfold X12_doShip_j82
  refine s_aload_n (pc := 82) 0 dX12_doShip_82 rfl ?_
  refine s_dup (pc := 83) dX12_doShip_83 rfl ?_
  refine rg_434 hh (pc := 84) dX12_doShip_84 rfl ?_
  refine s_iconst (v := 1) (pc := 87) dX12_doShip_87 (by decide) ?_
  refine s_iadd (pc := 88) dX12_doShip_88 ?_
  refine rp_434 hh (pc := 89) dX12_doShip_89 rfl (fun s6 => ?_)
  exact s_vret (pc := 92) dX12_doShip_92 rfl (fun _ _ q => q)
def X12_doShip_j143 (v1 : Int32) (v3 : Int32) (v4 : Int32) (v6 : Int32) (s : RS) : Option RS :=
  g_in (v1 + (4 : Int32)) 1800 (
  if (s.2.2.1 4 (v1 + (4 : Int32)).toNatClampNeg) = (1 : Int32) then
    (pX12_load s v3 v6 (((s.1 39) + v4) + (1 : Int32))).bind fun x11 =>
    some x11
  else
    some s)
theorem X12_doShip_j143_ok (hh : mo + 18 ≤ h.2.1) (v1 : Int32) (v3 : Int32) (v4 : Int32) (v6 : Int32) (s : RS) : aS l 2 MX12_doShip n0 S0 (oΦ (fun (x : RS) => (none, rH mo h x))) 143 [(0, .ref mo), (1, .int v1), (3, .int v3), (4, .int v4), (6, .int v6)] [] (rH mo h s) (X12_doShip_j143 v1 v3 v4 v6 s) := by
  unfold X12_doShip_j143
  refine s_aload_n (pc := 143) 0 dX12_doShip_143 rfl ?_
  refine rg_35 hh (pc := 144) dX12_doShip_144 rfl ?_
  refine s_iload_n (pc := 147) 1 dX12_doShip_147 rfl ?_
  refine s_iconst (v := 4) (pc := 148) dX12_doShip_148 (by decide) ?_
  refine s_iadd (pc := 149) dX12_doShip_149 ?_
  refine rl_4 hh (pc := 150) dX12_doShip_150 ?_
  refine s_iconst (v := 1) (pc := 151) dX12_doShip_151 (by decide) ?_
  refine s_icmp_ne (tgt := 171) (pc := 152) dX12_doShip_152 (by decide) (fun _ => ?_) (fun _ => ?_)
  · refine s_aload_n (pc := 155) 0 dX12_doShip_155 rfl ?_
    refine s_iload_n (pc := 156) 2 dX12_doShip_156 rfl ?_
    refine s_iload (pc := 157) 4 dX12_doShip_157 rfl ?_
    refine s_aload_n (pc := 159) 0 dX12_doShip_159 rfl ?_
    refine rg_443 hh (pc := 160) dX12_doShip_160 rfl ?_
    refine s_iload (pc := 163) 3 dX12_doShip_163 rfl ?_
    refine s_iadd (pc := 165) dX12_doShip_165 ?_
    refine s_iconst (v := 1) (pc := 166) dX12_doShip_166 (by decide) ?_
    refine s_iadd (pc := 167) dX12_doShip_167 ?_
    refine s_callV (M := MX12_doShip) (As := [.int v3, .int v6, .int (((s.1 39) + v4) + (1 : Int32))]) (st := []) (Ψ := fun (x : RS) => (none, rH mo h x)) cv_X12_446 (by decide) (pc := 168) dX12_doShip_168 r_0 (r_lt (k := 0) hh (by decide)) rfl (Nat.le_of_ble_eq_true rfl) (fun x hx => pX12_load_ok hh s v3 v6 (((s.1 39) + v4) + (1 : Int32)) x hx) rfl (fun x11 _ => ?_)
    exact s_vret (pc := 171) dX12_doShip_171 rfl (fun _ _ q => q)
  · exact s_vret (pc := 171) dX12_doShip_171 rfl (fun _ _ q => q)
def X12_doShip_j38 (v1 : Int32) (v2 : Int32) (v3 : Int32) (v4 : Int32) (k0 : Bool) (s : RS) : Option RS :=
  g_in (v1 + (4 : Int32)) 1800 (
  thn ((b2i k0) + (s.2.2.1 4 (v1 + (4 : Int32)).toNatClampNeg)) fun x4 =>
  (pX12_isIsland s v2).bind fun x5 =>
  if x5 = true then
    (pX12_isIsland s v3).bind fun x7 =>
    if x7 = true then
      if v2 = v3 then
        X12_doShip_j82 s
      else
        if ((s.1 35) + x4) ≤ (20 : Int32) then
          thn (uI s 36 ((s.1 36) + (1 : Int32))) fun s8 =>
          g_in ((114 : Int32) + v2) 1800 (
          thn (s8.2.2.1 4 ((114 : Int32) + v2).toNatClampNeg) fun x9 =>
          if v4 = 0 then
            (pX12_comes s8 v3 x9).bind fun x12 =>
            X12_doShip_j143 v1 v3 v4 x9 x12
          else
            (pX12_load s8 v3 x9 ((s8.1 39) + v4)).bind fun x10 =>
            X12_doShip_j143 v1 v3 v4 x9 x10)
        else
          X12_doShip_j82 s
    else
      X12_doShip_j82 s
  else
    X12_doShip_j82 s)
theorem X12_doShip_j38_ok (hh : mo + 18 ≤ h.2.1) (v1 : Int32) (v2 : Int32) (v3 : Int32) (v4 : Int32) (k0 : Bool) (s : RS) : aS l 2 MX12_doShip n0 S0 (oΦ (fun (x : RS) => (none, rH mo h x))) 38 [(0, .ref mo), (1, .int v1), (2, .int v2), (3, .int v3), (4, .int v4)] [.int (b2i k0)] (rH mo h s) (X12_doShip_j38 v1 v2 v3 v4 k0 s) := by
  unfold X12_doShip_j38
  refine s_aload_n (pc := 38) 0 dX12_doShip_38 rfl ?_
  refine rg_35 hh (pc := 39) dX12_doShip_39 rfl ?_
  refine s_iload_n (pc := 42) 1 dX12_doShip_42 rfl ?_
  refine s_iconst (v := 4) (pc := 43) dX12_doShip_43 (by decide) ?_
  refine s_iadd (pc := 44) dX12_doShip_44 ?_
  refine rl_4 hh (pc := 45) dX12_doShip_45 ?_
  refine s_iadd (pc := 46) dX12_doShip_46 ?_
  refine s_istoreT (lv' := fun x4 => [(5, .int x4), (0, .ref mo), (1, .int v1), (2, .int v2), (3, .int v3), (4, .int v4)]) (pc := 47) dX12_doShip_47 (by decide) (fun _ => rfl) (fun x4 => ?_)
  refine s_aload_n (pc := 49) 1 dX12_doShip_49 rfl ?_
  refine s_iload_n (pc := 50) 3 dX12_doShip_50 rfl ?_
  refine s_callV (M := MX12_doShip) (As := [.int v2]) (st := []) (Ψ := fun (x : Bool) => (some (.int (b2i x)), rH mo h s)) cv_X12_403 (by decide) (pc := 51) dX12_doShip_51 r_0 (r_lt (k := 0) hh (by decide)) rfl (Nat.le_of_ble_eq_true rfl) (fun x hx => pX12_isIsland_ok hh s v2 x hx) rfl (fun x5 _ => ?_)
  refine s_if_eqB (tgt := 82) (pc := 54) dX12_doShip_54 (by decide) (fun _ => ?_) (fun _ => ?_)
  · refine s_aload_n (pc := 57) 1 dX12_doShip_57 rfl ?_
    refine s_iload_n (pc := 58) 4 dX12_doShip_58 rfl ?_
    refine s_callV (M := MX12_doShip) (As := [.int v3]) (st := []) (Ψ := fun (x : Bool) => (some (.int (b2i x)), rH mo h s)) cv_X12_403 (by decide) (pc := 59) dX12_doShip_59 r_0 (r_lt (k := 0) hh (by decide)) rfl (Nat.le_of_ble_eq_true rfl) (fun x hx => pX12_isIsland_ok hh s v3 x hx) rfl (fun x7 _ => ?_)
    refine s_if_eqB (tgt := 82) (pc := 62) dX12_doShip_62 (by decide) (fun _ => ?_) (fun _ => ?_)
    · refine s_iload_n (pc := 65) 3 dX12_doShip_65 rfl ?_
      refine s_iload_n (pc := 66) 4 dX12_doShip_66 rfl ?_
      refine s_icmp_eq (tgt := 82) (pc := 67) dX12_doShip_67 (by decide) (fun _ => ?_) (fun _ => ?_)
      · refine s_sub [1] rfl ?_
        exact X12_doShip_j82_ok hh s
      · refine s_aload_n (pc := 70) 1 dX12_doShip_70 rfl ?_
        refine rg_431 hh (pc := 71) dX12_doShip_71 rfl ?_
        refine s_iload (pc := 74) 0 dX12_doShip_74 rfl ?_
        refine s_iadd (pc := 76) dX12_doShip_76 ?_
        refine s_bipush (v := 20) (pc := 77) dX12_doShip_77 (by decide) ?_
        refine s_icmp_le (tgt := 93) (pc := 79) dX12_doShip_79 (by decide) (fun _ => ?_) (fun _ => ?_)
        · refine s_aload_n (pc := 93) 1 dX12_doShip_93 rfl ?_
          refine s_dup (pc := 94) dX12_doShip_94 rfl ?_
          refine rg_437 hh (pc := 95) dX12_doShip_95 rfl ?_
          refine s_iconst (v := 1) (pc := 98) dX12_doShip_98 (by decide) ?_
          refine s_iadd (pc := 99) dX12_doShip_99 ?_
          refine rp_437 hh (pc := 100) dX12_doShip_100 rfl (fun s8 => ?_)
          refine s_aload_n (pc := 103) 1 dX12_doShip_103 rfl ?_
          refine rg_35 hh (pc := 104) dX12_doShip_104 rfl ?_
          refine s_bipush (v := 114) (pc := 107) dX12_doShip_107 (by decide) ?_
          refine s_iload_n (pc := 109) 3 dX12_doShip_109 rfl ?_
          refine s_iadd (pc := 110) dX12_doShip_110 ?_
          refine rl_4 hh (pc := 111) dX12_doShip_111 ?_
          refine s_istoreT (lv' := fun x9 => [(6, .int x9), (5, .int x4), (0, .ref mo), (1, .int v1), (2, .int v2), (3, .int v3), (4, .int v4)]) (pc := 112) dX12_doShip_112 (by decide) (fun _ => rfl) (fun x9 => ?_)
          refine s_iload (pc := 114) 6 dX12_doShip_114 rfl ?_
          refine s_if_ne (tgt := 129) (pc := 116) dX12_doShip_116 (by decide) (fun _ => ?_) (fun _ => ?_)
          · refine s_aload_n (pc := 119) 2 dX12_doShip_119 rfl ?_
            refine s_iload_n (pc := 120) 5 dX12_doShip_120 rfl ?_
            refine s_iload (pc := 121) 0 dX12_doShip_121 rfl ?_
            refine s_callV (M := MX12_doShip) (As := [.int v3, .int x9]) (st := []) (Ψ := fun (x : RS) => (none, rH mo h x)) cv_X12_440 (by decide) (pc := 123) dX12_doShip_123 r_0 (r_lt (k := 0) hh (by decide)) rfl (Nat.le_of_ble_eq_true rfl) (fun x hx => pX12_comes_ok hh s8 v3 x9 x hx) rfl (fun x12 _ => ?_)
            refine s_goto (tgt := 143) (pc := 126) dX12_doShip_126 (by decide) ?_
            refine s_sub [2, 3, 5, 6, 0] rfl ?_
            exact X12_doShip_j143_ok hh v1 v3 v4 x9 x12
          · refine s_aload_n (pc := 129) 2 dX12_doShip_129 rfl ?_
            refine s_iload_n (pc := 130) 5 dX12_doShip_130 rfl ?_
            refine s_iload (pc := 131) 0 dX12_doShip_131 rfl ?_
            refine s_aload_n (pc := 133) 2 dX12_doShip_133 rfl ?_
            refine rg_443 hh (pc := 134) dX12_doShip_134 rfl ?_
            refine s_iload (pc := 137) 6 dX12_doShip_137 rfl ?_
            refine s_iadd (pc := 139) dX12_doShip_139 ?_
            refine s_callV (M := MX12_doShip) (As := [.int v3, .int x9, .int ((s8.1 39) + v4)]) (st := []) (Ψ := fun (x : RS) => (none, rH mo h x)) cv_X12_446 (by decide) (pc := 140) dX12_doShip_140 r_0 (r_lt (k := 0) hh (by decide)) rfl (Nat.le_of_ble_eq_true rfl) (fun x hx => pX12_load_ok hh s8 v3 x9 ((s8.1 39) + v4) x hx) rfl (fun x10 _ => ?_)
            refine s_sub [2, 3, 5, 6, 0] rfl ?_
            exact X12_doShip_j143_ok hh v1 v3 v4 x9 x10
        · refine s_sub [1] rfl ?_
          exact X12_doShip_j82_ok hh s
    · refine s_sub [1] rfl ?_
      exact X12_doShip_j82_ok hh s
  · refine s_sub [1] rfl ?_
    exact X12_doShip_j82_ok hh s
def pX12_doShip (s : RS) (a0 : Int32) : Option RS :=
  g_in (a0 + (1 : Int32)) 1800 (
  thn (s.2.2.1 4 (a0 + (1 : Int32)).toNatClampNeg) fun x1 =>
  g_in (a0 + (2 : Int32)) 1800 (
  thn (s.2.2.1 4 (a0 + (2 : Int32)).toNatClampNeg) fun x2 =>
  g_in (a0 + (3 : Int32)) 1800 (
  thn (s.2.2.1 4 (a0 + (3 : Int32)).toNatClampNeg) fun x3 =>
  if x3 ≤ 0 then
    X12_doShip_j38 a0 x1 x2 x3 false s
  else
    X12_doShip_j38 a0 x1 x2 x3 true s)))
theorem pX12_doShip_w (hh : mo + 18 ≤ h.2.1) (s : RS) (a0 : Int32) : aS l 2 MX12_doShip n0 S0 (oΦ (fun (x : RS) => (none, rH mo h x))) 0 [(0, .ref mo), (1, .int a0)] [] (rH mo h s) (pX12_doShip s a0) := by
  unfold pX12_doShip
  refine s_aload_n (pc := 0) 0 dX12_doShip_0 rfl ?_
  refine rg_35 hh (pc := 1) dX12_doShip_1 rfl ?_
  refine s_iload_n (pc := 4) 1 dX12_doShip_4 rfl ?_
  refine s_iconst (v := 1) (pc := 5) dX12_doShip_5 (by decide) ?_
  refine s_iadd (pc := 6) dX12_doShip_6 ?_
  refine rl_4 hh (pc := 7) dX12_doShip_7 ?_
  refine s_istore_nT (lv' := fun x1 => [(2, .int x1), (0, .ref mo), (1, .int a0)]) (pc := 8) dX12_doShip_8 (by decide) (fun _ => rfl) (fun x1 => ?_)
  refine s_aload_n (pc := 9) 1 dX12_doShip_9 rfl ?_
  refine rg_35 hh (pc := 10) dX12_doShip_10 rfl ?_
  refine s_iload_n (pc := 13) 2 dX12_doShip_13 rfl ?_
  refine s_iconst (v := 2) (pc := 14) dX12_doShip_14 (by decide) ?_
  refine s_iadd (pc := 15) dX12_doShip_15 ?_
  refine rl_4 hh (pc := 16) dX12_doShip_16 ?_
  refine s_istore_nT (lv' := fun x2 => [(3, .int x2), (2, .int x1), (0, .ref mo), (1, .int a0)]) (pc := 17) dX12_doShip_17 (by decide) (fun _ => rfl) (fun x2 => ?_)
  refine s_aload_n (pc := 18) 2 dX12_doShip_18 rfl ?_
  refine rg_35 hh (pc := 19) dX12_doShip_19 rfl ?_
  refine s_iload_n (pc := 22) 3 dX12_doShip_22 rfl ?_
  refine s_iconst (v := 3) (pc := 23) dX12_doShip_23 (by decide) ?_
  refine s_iadd (pc := 24) dX12_doShip_24 ?_
  refine rl_4 hh (pc := 25) dX12_doShip_25 ?_
  refine s_istoreT (lv' := fun x3 => [(4, .int x3), (3, .int x2), (2, .int x1), (0, .ref mo), (1, .int a0)]) (pc := 26) dX12_doShip_26 (by decide) (fun _ => rfl) (fun x3 => ?_)
  refine s_iload (pc := 28) 0 dX12_doShip_28 rfl ?_
  refine s_if_le (tgt := 37) (pc := 30) dX12_doShip_30 (by decide) (fun _ => ?_) (fun _ => ?_)
  · refine s_iconst (v := 0) (pc := 37) dX12_doShip_37 (by decide) ?_
    refine s_sub [3, 4, 2, 1, 0] rfl ?_
    exact X12_doShip_j38_ok hh a0 x1 x2 x3 false s
  · refine s_iconst (v := 1) (pc := 33) dX12_doShip_33 (by decide) ?_
    refine s_goto (tgt := 38) (pc := 34) dX12_doShip_34 (by decide) ?_
    refine s_sub [3, 4, 2, 1, 0] rfl ?_
    exact X12_doShip_j38_ok hh a0 x1 x2 x3 true s
theorem pX12_doShip_ok (hh : mo + 18 ≤ h.2.1) (s : RS) (a0 : Int32) : ∀ x, pX12_doShip s a0 = some x → aMet l 2 yX12_doShip cX12_doShip 7 none [.ref mo, .int a0] (rH mo h s) none (rH mo h x) := fun x hx => a_meth (ini := false) (y := yX12_doShip) (by decide +kernel) (fun q => by cases q) (fun _ => Nat.le_of_ble_eq_true rfl) (pX12_doShip_w hh s a0) x hx _ _ ⟨rfl, rfl⟩
end
section
variable {l : Launch} {n0 S0 : Nat} {mo : Nat} {h : aH}
abbrev MX12_takeAway : aM := (cX12_takeAway, RX12, 3, none, false)
def X12_takeAway_x12 (l : Launch) (n0 S0 : Nat) (mo : Nat) (h : aH) : RS → Option Value → aH → Prop := fun (x : RS) r h' => aEv l 0 MX12_takeAway n0 S0 82 [] [] (rH mo h x) r h'
def X12_takeAway_b12 (v2 : Int32) (s : RS) : Option ((Int32 × RS) ⊕ RS) :=
  if (s.1 35) ≤ v2 then
    some (.inr s)
  else
    g_in (v2 + (1 : Int32)) 20 (
    g_in v2 20 (thn (uA s 10 (upd (s.2.2.1 10) v2.toNatClampNeg (s.2.2.1 10 (v2 + (1 : Int32)).toNatClampNeg))) fun s2 =>
    g_in (v2 + (1 : Int32)) 20 (
    g_in v2 20 (thn (uA s2 11 (upd (s2.2.2.1 11) v2.toNatClampNeg (s2.2.2.1 11 (v2 + (1 : Int32)).toNatClampNeg))) fun s3 =>
    g_in (v2 + (1 : Int32)) 20 (
    g_in v2 20 (thn (uA s3 12 (upd (s3.2.2.1 12) v2.toNatClampNeg (s3.2.2.1 12 (v2 + (1 : Int32)).toNatClampNeg))) fun s4 =>
    g_in (v2 + (1 : Int32)) 20 (
    g_in v2 20 (thn (uA s4 13 (upd (s4.2.2.1 13) v2.toNatClampNeg (s4.2.2.1 13 (v2 + (1 : Int32)).toNatClampNeg))) fun s5 =>
    thn (v2 + 1) fun x6 =>
    some (.inl (x6, s5))))))))))
theorem X12_takeAway_b12_ok (hh : mo + 18 ≤ h.2.1) (v2 : Int32) (s : RS) : aS l 0 MX12_takeAway n0 S0 (a_LΦ (X12_takeAway_x12 l n0 S0 mo h) l 0 MX12_takeAway n0 S0 12 (fun (q : Int32 × RS) => [(0, .ref mo), (2, .int q.1)]) (fun _ => []) (fun (q : Int32 × RS) => rH mo h q.2)) 12 [(0, .ref mo), (2, .int v2)] [] (rH mo h s) (X12_takeAway_b12 v2 s) := by
  unfold X12_takeAway_b12
  refine s_iload_n (pc := 12) 1 dX12_takeAway_12 rfl ?_
  refine s_aload_n (pc := 13) 0 dX12_takeAway_13 rfl ?_
  refine rg_431 hh (pc := 14) dX12_takeAway_14 rfl ?_
  refine s_icmp_ge (tgt := 82) (pc := 17) dX12_takeAway_17 (by decide) (fun _ => ?_) (fun _ => ?_)
  · refine s_sub [] rfl ?_
    exact s_ev (fun _ _ q => q)
  · refine s_aload_n (pc := 20) 0 dX12_takeAway_20 rfl ?_
    refine rg_54 hh (pc := 21) dX12_takeAway_21 rfl ?_
    refine s_iload_n (pc := 24) 1 dX12_takeAway_24 rfl ?_
    refine s_aload_n (pc := 25) 0 dX12_takeAway_25 rfl ?_
    refine rg_54 hh (pc := 26) dX12_takeAway_26 rfl ?_
    refine s_iload_n (pc := 29) 1 dX12_takeAway_29 rfl ?_
    refine s_iconst (v := 1) (pc := 30) dX12_takeAway_30 (by decide) ?_
    refine s_iadd (pc := 31) dX12_takeAway_31 ?_
    refine rl_10 hh (pc := 32) dX12_takeAway_32 ?_
    refine rs_10 hh (pc := 33) dX12_takeAway_33 (fun s2 => ?_)
    refine s_aload_n (pc := 34) 0 dX12_takeAway_34 rfl ?_
    refine rg_57 hh (pc := 35) dX12_takeAway_35 rfl ?_
    refine s_iload_n (pc := 38) 1 dX12_takeAway_38 rfl ?_
    refine s_aload_n (pc := 39) 0 dX12_takeAway_39 rfl ?_
    refine rg_57 hh (pc := 40) dX12_takeAway_40 rfl ?_
    refine s_iload_n (pc := 43) 1 dX12_takeAway_43 rfl ?_
    refine s_iconst (v := 1) (pc := 44) dX12_takeAway_44 (by decide) ?_
    refine s_iadd (pc := 45) dX12_takeAway_45 ?_
    refine rl_11 hh (pc := 46) dX12_takeAway_46 ?_
    refine rs_11 hh (pc := 47) dX12_takeAway_47 (fun s3 => ?_)
    refine s_aload_n (pc := 48) 0 dX12_takeAway_48 rfl ?_
    refine rg_60 hh (pc := 49) dX12_takeAway_49 rfl ?_
    refine s_iload_n (pc := 52) 1 dX12_takeAway_52 rfl ?_
    refine s_aload_n (pc := 53) 0 dX12_takeAway_53 rfl ?_
    refine rg_60 hh (pc := 54) dX12_takeAway_54 rfl ?_
    refine s_iload_n (pc := 57) 1 dX12_takeAway_57 rfl ?_
    refine s_iconst (v := 1) (pc := 58) dX12_takeAway_58 (by decide) ?_
    refine s_iadd (pc := 59) dX12_takeAway_59 ?_
    refine rl_12 hh (pc := 60) dX12_takeAway_60 ?_
    refine rs_12 hh (pc := 61) dX12_takeAway_61 (fun s4 => ?_)
    refine s_aload_n (pc := 62) 0 dX12_takeAway_62 rfl ?_
    refine rg_63 hh (pc := 63) dX12_takeAway_63 rfl ?_
    refine s_iload_n (pc := 66) 1 dX12_takeAway_66 rfl ?_
    refine s_aload_n (pc := 67) 0 dX12_takeAway_67 rfl ?_
    refine rg_63 hh (pc := 68) dX12_takeAway_68 rfl ?_
    refine s_iload_n (pc := 71) 1 dX12_takeAway_71 rfl ?_
    refine s_iconst (v := 1) (pc := 72) dX12_takeAway_72 (by decide) ?_
    refine s_iadd (pc := 73) dX12_takeAway_73 ?_
    refine rl_13 hh (pc := 74) dX12_takeAway_74 ?_
    refine rs_13 hh (pc := 75) dX12_takeAway_75 (fun s5 => ?_)
    refine s_iincT (pc := 76) 1 (lv' := fun x6 => [(2, .int x6), (0, .ref mo)]) dX12_takeAway_76 rfl rfl (by decide) (fun _ => rfl) (fun x6 => ?_)
    refine s_goto (tgt := 12) (pc := 79) dX12_takeAway_79 (by decide) ?_
    refine s_sub [1, 0] rfl ?_
    exact s_ev (fun _ _ q => q)
def pX12_takeAway (s : RS) (a0 : Int32) : Option RS :=
  thn (uI s 35 ((s.1 35) - (1 : Int32))) fun s1 =>
  (a_loop (fun (q : Int32 × RS) => X12_takeAway_b12 q.1 q.2) FU (a0, s1)).bind fun (t7 : RS) =>
    some t7
theorem pX12_takeAway_w (hh : mo + 18 ≤ h.2.1) (s : RS) (a0 : Int32) : aS l 0 MX12_takeAway n0 S0 (oΦ (fun (x : RS) => (none, rH mo h x))) 0 [(0, .ref mo), (1, .int a0)] [] (rH mo h s) (pX12_takeAway s a0) := by
  unfold pX12_takeAway
  refine s_aload_n (pc := 0) 0 dX12_takeAway_0 rfl ?_
  refine s_dup (pc := 1) dX12_takeAway_1 rfl ?_
  refine rg_431 hh (pc := 2) dX12_takeAway_2 rfl ?_
  refine s_iconst (v := 1) (pc := 5) dX12_takeAway_5 (by decide) ?_
  refine s_isub (pc := 6) dX12_takeAway_6 ?_
  refine rp_431 hh (pc := 7) dX12_takeAway_7 rfl (fun s1 => ?_)
  refine s_iload_n (pc := 10) 1 dX12_takeAway_10 rfl ?_
  refine s_istore_n (lv' := [(2, .int a0), (0, .ref mo), (1, .int a0)]) (pc := 11) dX12_takeAway_11 (by decide) rfl ?_
  refine s_bind (Ψ := X12_takeAway_x12 l n0 S0 mo h) ?_ ?_
  · refine s_sub [1, 0] rfl ?_
    exact s_loop (lvf := fun (q : Int32 × RS) => [(0, .ref mo), (2, .int q.1)]) (stf := fun _ => []) (hf := fun (q : Int32 × RS) => rH mo h q.2) (fun q => X12_takeAway_b12_ok hh q.1 q.2) FU (a0, s1)
  · intro t7 z r h' hz hr
    refine (?_ : aS l 0 MX12_takeAway n0 S0 (oΦ (fun (x : RS) => (none, rH mo h x))) 82 [] [] (rH mo h t7) _) z hz r h' hr
    exact s_vret (pc := 82) dX12_takeAway_82 rfl (fun _ _ q => q)
theorem pX12_takeAway_ok (hh : mo + 18 ≤ h.2.1) (s : RS) (a0 : Int32) : ∀ x, pX12_takeAway s a0 = some x → aMet l 0 yX12_takeAway cX12_takeAway 3 none [.ref mo, .int a0] (rH mo h s) none (rH mo h x) := fun x hx => a_meth (ini := false) (y := yX12_takeAway) (by decide +kernel) (fun q => by cases q) (fun _ => Nat.le_of_ble_eq_true rfl) (pX12_takeAway_w hh s a0) x hx _ _ ⟨rfl, rfl⟩
end
section
variable {l : Launch} {n0 S0 : Nat} {mo : Nat} {h : aH}
abbrev MX12_doDraw : aM := (cX12_doDraw, RX12, 3, none, false)
def X12_doDraw_x28 (l : Launch) (n0 S0 : Nat) (mo : Nat) (h : aH) (v2 : Int32) : RS → Option Value → aH → Prop := fun (x : RS) r h' => aEv l 1 MX12_doDraw n0 S0 73 [] [] (rH mo h x) r h'
def X12_doDraw_b28 (v2 : Int32) (s : RS) : Option (RS ⊕ RS) :=
  if (s.1 35) ≤ 0 then
    some (.inr s)
  else
    g_in ((s.1 35) - (1 : Int32)) 20 (
    if (s.2.2.1 13 ((s.1 35) - (1 : Int32)).toNatClampNeg) = v2 then
      thn (uI s 35 ((s.1 35) - (1 : Int32))) fun s3 =>
      thn (uI s3 42 ((s3.1 42) + (1 : Int32))) fun s4 =>
      some (.inl s4)
    else
      some (.inr s))
theorem X12_doDraw_b28_ok (hh : mo + 18 ≤ h.2.1) (v2 : Int32) (s : RS) : aS l 1 MX12_doDraw n0 S0 (a_LΦ (X12_doDraw_x28 l n0 S0 mo h v2) l 1 MX12_doDraw n0 S0 28 (fun (q : RS) => [(0, .ref mo), (2, .int v2)]) (fun _ => []) (fun (q : RS) => rH mo h q)) 28 [(0, .ref mo), (2, .int v2)] [] (rH mo h s) (X12_doDraw_b28 v2 s) := by
  unfold X12_doDraw_b28
  refine s_aload_n (pc := 28) 0 dX12_doDraw_28 rfl ?_
  refine rg_431 hh (pc := 29) dX12_doDraw_29 rfl ?_
  refine s_if_le (tgt := 73) (pc := 32) dX12_doDraw_32 (by decide) (fun _ => ?_) (fun _ => ?_)
  · refine s_sub [] rfl ?_
    exact s_ev (fun _ _ q => q)
  · refine s_aload_n (pc := 35) 0 dX12_doDraw_35 rfl ?_
    refine rg_63 hh (pc := 36) dX12_doDraw_36 rfl ?_
    refine s_aload_n (pc := 39) 0 dX12_doDraw_39 rfl ?_
    refine rg_431 hh (pc := 40) dX12_doDraw_40 rfl ?_
    refine s_iconst (v := 1) (pc := 43) dX12_doDraw_43 (by decide) ?_
    refine s_isub (pc := 44) dX12_doDraw_44 ?_
    refine rl_13 hh (pc := 45) dX12_doDraw_45 ?_
    refine s_iload_n (pc := 46) 1 dX12_doDraw_46 rfl ?_
    refine s_icmp_ne (tgt := 73) (pc := 47) dX12_doDraw_47 (by decide) (fun _ => ?_) (fun _ => ?_)
    · refine s_aload_n (pc := 50) 0 dX12_doDraw_50 rfl ?_
      refine s_dup (pc := 51) dX12_doDraw_51 rfl ?_
      refine rg_431 hh (pc := 52) dX12_doDraw_52 rfl ?_
      refine s_iconst (v := 1) (pc := 55) dX12_doDraw_55 (by decide) ?_
      refine s_isub (pc := 56) dX12_doDraw_56 ?_
      refine rp_431 hh (pc := 57) dX12_doDraw_57 rfl (fun s3 => ?_)
      refine s_aload_n (pc := 60) 0 dX12_doDraw_60 rfl ?_
      refine s_dup (pc := 61) dX12_doDraw_61 rfl ?_
      refine rg_452 hh (pc := 62) dX12_doDraw_62 rfl ?_
      refine s_iconst (v := 1) (pc := 65) dX12_doDraw_65 (by decide) ?_
      refine s_iadd (pc := 66) dX12_doDraw_66 ?_
      refine rp_452 hh (pc := 67) dX12_doDraw_67 rfl (fun s4 => ?_)
      refine s_goto (tgt := 28) (pc := 70) dX12_doDraw_70 (by decide) ?_
      exact s_ev (fun _ _ q => q)
    · refine s_sub [] rfl ?_
      exact s_ev (fun _ _ q => q)
def pX12_doDraw (s : RS) (a0 : Int32) : Option RS :=
  (pX12_draw s).bind fun x1 =>
  if a0 ≤ x1.1 then
    some x1.2
  else
    if (x1.2.1 35) = 0 then
      some x1.2
    else
      g_in ((x1.2.1 35) - (1 : Int32)) 20 (
      thn (x1.2.2.2.1 13 ((x1.2.1 35) - (1 : Int32)).toNatClampNeg) fun x2 =>
      (a_loop (fun (q : RS) => X12_doDraw_b28 x2 q) FU x1.2).bind fun (t5 : RS) =>
        some t5)
theorem pX12_doDraw_w (hh : mo + 18 ≤ h.2.1) (s : RS) (a0 : Int32) : aS l 1 MX12_doDraw n0 S0 (oΦ (fun (x : RS) => (none, rH mo h x))) 0 [(0, .ref mo), (1, .int a0)] [] (rH mo h s) (pX12_doDraw s a0) := by
  unfold pX12_doDraw
  refine s_aload_n (pc := 0) 0 dX12_doDraw_0 rfl ?_
  refine s_callV (M := MX12_doDraw) (As := []) (st := []) (Ψ := fun (x : Int32 × RS) => (some (.int x.1), rH mo h x.2)) cv_X12_449 (by decide) (pc := 1) dX12_doDraw_1 r_0 (r_lt (k := 0) hh (by decide)) rfl (Nat.le_of_ble_eq_true rfl) (fun x hx => pX12_draw_ok hh s x hx) rfl (fun x1 _ => ?_)
  refine s_iload_n (pc := 4) 1 dX12_doDraw_4 rfl ?_
  refine s_icmp_ge (tgt := 15) (pc := 5) dX12_doDraw_5 (by decide) (fun _ => ?_) (fun _ => ?_)
  · exact s_vret (pc := 15) dX12_doDraw_15 rfl (fun _ _ q => q)
  · refine s_aload_n (pc := 8) 0 dX12_doDraw_8 rfl ?_
    refine rg_431 hh (pc := 9) dX12_doDraw_9 rfl ?_
    refine s_if_ne (tgt := 16) (pc := 12) dX12_doDraw_12 (by decide) (fun _ => ?_) (fun _ => ?_)
    · exact s_vret (pc := 15) dX12_doDraw_15 rfl (fun _ _ q => q)
    · refine s_aload_n (pc := 16) 0 dX12_doDraw_16 rfl ?_
      refine rg_63 hh (pc := 17) dX12_doDraw_17 rfl ?_
      refine s_aload_n (pc := 20) 0 dX12_doDraw_20 rfl ?_
      refine rg_431 hh (pc := 21) dX12_doDraw_21 rfl ?_
      refine s_iconst (v := 1) (pc := 24) dX12_doDraw_24 (by decide) ?_
      refine s_isub (pc := 25) dX12_doDraw_25 ?_
      refine rl_13 hh (pc := 26) dX12_doDraw_26 ?_
      refine s_istore_nT (lv' := fun x2 => [(2, .int x2), (0, .ref mo), (1, .int a0)]) (pc := 27) dX12_doDraw_27 (by decide) (fun _ => rfl) (fun x2 => ?_)
      refine s_bind (Ψ := X12_doDraw_x28 l n0 S0 mo h x2) ?_ ?_
      · refine s_sub [1, 0] rfl ?_
        exact s_loop (lvf := fun (q : RS) => [(0, .ref mo), (2, .int x2)]) (stf := fun _ => []) (hf := fun (q : RS) => rH mo h q) (fun q => X12_doDraw_b28_ok hh x2 q) FU x1.2
      · intro t5 z r h' hz hr
        refine (?_ : aS l 1 MX12_doDraw n0 S0 (oΦ (fun (x : RS) => (none, rH mo h x))) 73 [] [] (rH mo h t5) _) z hz r h' hr
        exact s_vret (pc := 73) dX12_doDraw_73 rfl (fun _ _ q => q)
theorem pX12_doDraw_ok (hh : mo + 18 ≤ h.2.1) (s : RS) (a0 : Int32) : ∀ x, pX12_doDraw s a0 = some x → aMet l 1 yX12_doDraw cX12_doDraw 3 none [.ref mo, .int a0] (rH mo h s) none (rH mo h x) := fun x hx => a_meth (ini := false) (y := yX12_doDraw) (by decide +kernel) (fun q => by cases q) (fun _ => Nat.le_of_ble_eq_true rfl) (pX12_doDraw_w hh s a0) x hx _ _ ⟨rfl, rfl⟩
end
section
variable {l : Launch} {n0 S0 : Nat} {mo : Nat} {h : aH}
abbrev MX12_doWait : aM := (cX12_doWait, RX12, 4, none, false)
def X12_doWait_x2 (l : Launch) (n0 S0 : Nat) (mo : Nat) (h : aH) (v1 : Int32) : RS → Option Value → aH → Prop := fun (x : RS) r h' => aEv l 1 MX12_doWait n0 S0 76 [] [] (rH mo h x) r h'
def X12_doWait_x19 (l : Launch) (n0 S0 : Nat) (mo : Nat) (h : aH) (v1 : Int32) (v2 : Int32) : RS → Option Value → aH → Prop := fun (x : RS) r h' => aEv l 1 MX12_doWait n0 S0 70 [(0, .ref mo), (1, .int v1), (2, .int v2)] [] (rH mo h x) r h'
def X12_doWait_b19 (v1 : Int32) (v2 : Int32) (v3 : Int32) (s : RS) : Option ((Int32 × RS) ⊕ RS) :=
  if (s.1 35) ≤ v3 then
    some (.inr s)
  else
    g_in v3 20 (
    if (s.2.2.1 12 v3.toNatClampNeg) ≤ (s.1 39) then
      g_in v3 20 (
      g_in v3 20 (
      (pX12_comes s (s.2.2.1 10 v3.toNatClampNeg) (s.2.2.1 11 v3.toNatClampNeg)).bind fun x2 =>
      (pX12_takeAway x2 v3).bind fun x3 =>
      some (.inl (v3, x3))))
    else
      thn (v3 + 1) fun x4 =>
      some (.inl (x4, s)))
theorem X12_doWait_b19_ok (hh : mo + 18 ≤ h.2.1) (v1 : Int32) (v2 : Int32) (v3 : Int32) (s : RS) : aS l 1 MX12_doWait n0 S0 (a_LΦ (X12_doWait_x19 l n0 S0 mo h v1 v2) l 1 MX12_doWait n0 S0 19 (fun (q : Int32 × RS) => [(0, .ref mo), (1, .int v1), (2, .int v2), (3, .int q.1)]) (fun _ => []) (fun (q : Int32 × RS) => rH mo h q.2)) 19 [(0, .ref mo), (1, .int v1), (2, .int v2), (3, .int v3)] [] (rH mo h s) (X12_doWait_b19 v1 v2 v3 s) := by
  unfold X12_doWait_b19
  refine s_iload_n (pc := 19) 3 dX12_doWait_19 rfl ?_
  refine s_aload_n (pc := 20) 0 dX12_doWait_20 rfl ?_
  refine rg_431 hh (pc := 21) dX12_doWait_21 rfl ?_
  refine s_icmp_ge (tgt := 70) (pc := 24) dX12_doWait_24 (by decide) (fun _ => ?_) (fun _ => ?_)
  · refine s_sub [0, 1, 2] rfl ?_
    exact s_ev (fun _ _ q => q)
  · refine s_aload_n (pc := 27) 0 dX12_doWait_27 rfl ?_
    refine rg_60 hh (pc := 28) dX12_doWait_28 rfl ?_
    refine s_iload_n (pc := 31) 3 dX12_doWait_31 rfl ?_
    refine rl_12 hh (pc := 32) dX12_doWait_32 ?_
    refine s_aload_n (pc := 33) 0 dX12_doWait_33 rfl ?_
    refine rg_443 hh (pc := 34) dX12_doWait_34 rfl ?_
    refine s_icmp_le (tgt := 46) (pc := 37) dX12_doWait_37 (by decide) (fun _ => ?_) (fun _ => ?_)
    · refine s_aload_n (pc := 46) 0 dX12_doWait_46 rfl ?_
      refine s_aload_n (pc := 47) 0 dX12_doWait_47 rfl ?_
      refine rg_54 hh (pc := 48) dX12_doWait_48 rfl ?_
      refine s_iload_n (pc := 51) 3 dX12_doWait_51 rfl ?_
      refine rl_10 hh (pc := 52) dX12_doWait_52 ?_
      refine s_aload_n (pc := 53) 0 dX12_doWait_53 rfl ?_
      refine rg_57 hh (pc := 54) dX12_doWait_54 rfl ?_
      refine s_iload_n (pc := 57) 3 dX12_doWait_57 rfl ?_
      refine rl_11 hh (pc := 58) dX12_doWait_58 ?_
      refine s_callV (M := MX12_doWait) (As := [.int (s.2.2.1 10 v3.toNatClampNeg), .int (s.2.2.1 11 v3.toNatClampNeg)]) (st := []) (Ψ := fun (x : RS) => (none, rH mo h x)) cv_X12_440 (by decide) (pc := 59) dX12_doWait_59 r_0 (r_lt (k := 0) hh (by decide)) rfl (Nat.le_of_ble_eq_true rfl) (fun x hx => pX12_comes_ok hh s (s.2.2.1 10 v3.toNatClampNeg) (s.2.2.1 11 v3.toNatClampNeg) x hx) rfl (fun x2 _ => ?_)
      refine s_aload_n (pc := 62) 0 dX12_doWait_62 rfl ?_
      refine s_iload_n (pc := 63) 3 dX12_doWait_63 rfl ?_
      refine s_callV (M := MX12_doWait) (As := [.int v3]) (st := []) (Ψ := fun (x : RS) => (none, rH mo h x)) cv_X12_455 (by decide) (pc := 64) dX12_doWait_64 r_0 (r_lt (k := 0) hh (by decide)) rfl (Nat.le_of_ble_eq_true rfl) (fun x hx => pX12_takeAway_ok hh x2 v3 x hx) rfl (fun x3 _ => ?_)
      refine s_goto (tgt := 19) (pc := 67) dX12_doWait_67 (by decide) ?_
      exact s_ev (fun _ _ q => q)
    · refine s_iincT (pc := 40) 3 (lv' := fun x4 => [(3, .int x4), (0, .ref mo), (1, .int v1), (2, .int v2)]) dX12_doWait_40 rfl rfl (by decide) (fun _ => rfl) (fun x4 => ?_)
      refine s_goto (tgt := 19) (pc := 43) dX12_doWait_43 (by decide) ?_
      refine s_sub [1, 2, 3, 0] rfl ?_
      exact s_ev (fun _ _ q => q)
def X12_doWait_b2 (v1 : Int32) (v2 : Int32) (s : RS) : Option ((Int32 × RS) ⊕ RS) :=
  if v1 ≤ v2 then
    some (.inr s)
  else
    thn (uI s 39 ((s.1 39) + (1 : Int32))) fun s1 =>
    (a_loop (fun (q : Int32 × RS) => X12_doWait_b19 v1 v2 q.1 q.2) FU ((0 : Int32), s1)).bind fun (t5 : RS) =>
      thn (v2 + 1) fun x6 =>
      some (.inl (x6, t5))
theorem X12_doWait_b2_ok (hh : mo + 18 ≤ h.2.1) (v1 : Int32) (v2 : Int32) (s : RS) : aS l 1 MX12_doWait n0 S0 (a_LΦ (X12_doWait_x2 l n0 S0 mo h v1) l 1 MX12_doWait n0 S0 2 (fun (q : Int32 × RS) => [(0, .ref mo), (1, .int v1), (2, .int q.1)]) (fun _ => []) (fun (q : Int32 × RS) => rH mo h q.2)) 2 [(0, .ref mo), (1, .int v1), (2, .int v2)] [] (rH mo h s) (X12_doWait_b2 v1 v2 s) := by
  unfold X12_doWait_b2
  refine s_iload_n (pc := 2) 2 dX12_doWait_2 rfl ?_
  refine s_iload_n (pc := 3) 1 dX12_doWait_3 rfl ?_
  refine s_icmp_ge (tgt := 76) (pc := 4) dX12_doWait_4 (by decide) (fun _ => ?_) (fun _ => ?_)
  · refine s_sub [] rfl ?_
    exact s_ev (fun _ _ q => q)
  · refine s_aload_n (pc := 7) 0 dX12_doWait_7 rfl ?_
    refine s_dup (pc := 8) dX12_doWait_8 rfl ?_
    refine rg_443 hh (pc := 9) dX12_doWait_9 rfl ?_
    refine s_iconst (v := 1) (pc := 12) dX12_doWait_12 (by decide) ?_
    refine s_iadd (pc := 13) dX12_doWait_13 ?_
    refine rp_443 hh (pc := 14) dX12_doWait_14 rfl (fun s1 => ?_)
    refine s_iconst (v := 0) (pc := 17) dX12_doWait_17 (by decide) ?_
    refine s_istore_n (lv' := [(3, .int 0), (0, .ref mo), (1, .int v1), (2, .int v2)]) (pc := 18) dX12_doWait_18 (by decide) rfl ?_
    refine s_bind (Ψ := X12_doWait_x19 l n0 S0 mo h v1 v2) ?_ ?_
    · refine s_sub [1, 2, 3, 0] rfl ?_
      exact s_loop (lvf := fun (q : Int32 × RS) => [(0, .ref mo), (1, .int v1), (2, .int v2), (3, .int q.1)]) (stf := fun _ => []) (hf := fun (q : Int32 × RS) => rH mo h q.2) (fun q => X12_doWait_b19_ok hh v1 v2 q.1 q.2) FU ((0 : Int32), s1)
    · intro t5 z r h' hz hr
      refine (?_ : aS l 1 MX12_doWait n0 S0 (a_LΦ (X12_doWait_x2 l n0 S0 mo h v1) l 1 MX12_doWait n0 S0 2 (fun (q : Int32 × RS) => [(0, .ref mo), (1, .int v1), (2, .int q.1)]) (fun _ => []) (fun (q : Int32 × RS) => rH mo h q.2)) 70 [(0, .ref mo), (1, .int v1), (2, .int v2)] [] (rH mo h t5) _) z hz r h' hr
      refine s_iincT (pc := 70) 2 (lv' := fun x6 => [(2, .int x6), (0, .ref mo), (1, .int v1)]) dX12_doWait_70 rfl rfl (by decide) (fun _ => rfl) (fun x6 => ?_)
      refine s_goto (tgt := 2) (pc := 73) dX12_doWait_73 (by decide) ?_
      refine s_sub [1, 2, 0] rfl ?_
      exact s_ev (fun _ _ q => q)
def pX12_doWait (s : RS) (a0 : Int32) : Option RS :=
  (a_loop (fun (q : Int32 × RS) => X12_doWait_b2 a0 q.1 q.2) FU ((0 : Int32), s)).bind fun (t7 : RS) =>
    some t7
theorem pX12_doWait_w (hh : mo + 18 ≤ h.2.1) (s : RS) (a0 : Int32) : aS l 1 MX12_doWait n0 S0 (oΦ (fun (x : RS) => (none, rH mo h x))) 0 [(0, .ref mo), (1, .int a0)] [] (rH mo h s) (pX12_doWait s a0) := by
  unfold pX12_doWait
  refine s_iconst (v := 0) (pc := 0) dX12_doWait_0 (by decide) ?_
  refine s_istore_n (lv' := [(2, .int 0), (0, .ref mo), (1, .int a0)]) (pc := 1) dX12_doWait_1 (by decide) rfl ?_
  refine s_bind (Ψ := X12_doWait_x2 l n0 S0 mo h a0) ?_ ?_
  · refine s_sub [1, 2, 0] rfl ?_
    exact s_loop (lvf := fun (q : Int32 × RS) => [(0, .ref mo), (1, .int a0), (2, .int q.1)]) (stf := fun _ => []) (hf := fun (q : Int32 × RS) => rH mo h q.2) (fun q => X12_doWait_b2_ok hh a0 q.1 q.2) FU ((0 : Int32), s)
  · intro t7 z r h' hz hr
    refine (?_ : aS l 1 MX12_doWait n0 S0 (oΦ (fun (x : RS) => (none, rH mo h x))) 76 [] [] (rH mo h t7) _) z hz r h' hr
    exact s_vret (pc := 76) dX12_doWait_76 rfl (fun _ _ q => q)
theorem pX12_doWait_ok (hh : mo + 18 ≤ h.2.1) (s : RS) (a0 : Int32) : ∀ x, pX12_doWait s a0 = some x → aMet l 1 yX12_doWait cX12_doWait 4 none [.ref mo, .int a0] (rH mo h s) none (rH mo h x) := fun x hx => a_meth (ini := false) (y := yX12_doWait) (by decide +kernel) (fun q => by cases q) (fun _ => Nat.le_of_ble_eq_true rfl) (pX12_doWait_w hh s a0) x hx _ _ ⟨rfl, rfl⟩
end
