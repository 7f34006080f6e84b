section
variable {l : Launch} {n0 S0 : Nat} {mo : Nat} {h : aH}
abbrev MX12_lacks : aM := (cX12_lacks, RX12, 2, (some .int), false)
def pX12_lacks (s : RS) (a0 : Int32) : Option (Int32 × RS) :=
  thn (uI s 1 (0 : Int32)) fun s1 =>
  thn (uI s1 0 (0 : Int32)) fun s2 =>
  (pX12_isSet s2 a0).bind fun x3 =>
  if x3 = true then
    (pX12_lackOf s2 a0).bind fun x5 =>
    some (x5, s2)
  else
    (pX12_refuse s2 (2 : Int32)).bind fun x4 =>
    some (x4.1, x4.2)
theorem pX12_lacks_w (hh : mo + 18 ≤ h.2.1) (s : RS) (a0 : Int32) : aS l 2 MX12_lacks n0 S0 (oΦ (fun (x : Int32 × RS) => (some (.int x.1), rH mo h x.2))) 0 [(0, .ref mo), (1, .int a0)] [] (rH mo h s) (pX12_lacks s a0) := by
  unfold pX12_lacks
  refine s_aload_n (pc := 0) 0 dX12_lacks_0 rfl ?_
  refine s_iconst (v := 0) (pc := 1) dX12_lacks_1 (by decide) ?_
  refine rp_75 hh (pc := 2) dX12_lacks_2 rfl (fun s1 => ?_)
  refine s_aload_n (pc := 5) 0 dX12_lacks_5 rfl ?_
  refine s_iconst (v := 0) (pc := 6) dX12_lacks_6 (by decide) ?_
  refine rp_78 hh (pc := 7) dX12_lacks_7 rfl (fun s2 => ?_)
  refine s_aload_n (pc := 10) 0 dX12_lacks_10 rfl ?_
  refine s_iload_n (pc := 11) 1 dX12_lacks_11 rfl ?_
  refine s_callV (M := MX12_lacks) (As := [.int a0]) (st := []) (Ψ := fun (x : Bool) => (some (.int (b2i x)), rH mo h s2)) cv_X12_319 (by decide) (pc := 12) dX12_lacks_12 r_0 (r_lt (k := 0) hh (by decide)) rfl (Nat.le_of_ble_eq_true rfl) (fun x hx => pX12_isSet_ok hh s2 a0 x hx) rfl (fun x3 _ => ?_)
  refine s_if_eqB (tgt := 26) (pc := 15) dX12_lacks_15 (by decide) (fun _ => ?_) (fun _ => ?_)
  · refine s_aload_n (pc := 18) 0 dX12_lacks_18 rfl ?_
    refine s_iload_n (pc := 19) 1 dX12_lacks_19 rfl ?_
    refine s_callV (M := MX12_lacks) (As := [.int a0]) (st := []) (Ψ := fun (x : Int32) => (some (.int x), rH mo h s2)) cv_X12_322 (by decide) (pc := 20) dX12_lacks_20 r_0 (r_lt (k := 0) hh (by decide)) rfl (Nat.le_of_ble_eq_true rfl) (fun x hx => pX12_lackOf_ok hh s2 a0 x hx) rfl (fun x5 _ => ?_)
    refine s_goto (tgt := 31) (pc := 23) dX12_lacks_23 (by decide) ?_
    exact s_iret (pc := 31) dX12_lacks_31 rfl (fun _ _ q => q)
  · refine s_aload_n (pc := 26) 0 dX12_lacks_26 rfl ?_
    refine s_iconst (v := 2) (pc := 27) dX12_lacks_27 (by decide) ?_
    refine s_callV (M := MX12_lacks) (As := [.int 2]) (st := []) (Ψ := fun (x : Int32 × RS) => (some (.int x.1), rH mo h x.2)) cv_X12_299 (by decide) (pc := 28) dX12_lacks_28 r_0 (r_lt (k := 0) hh (by decide)) rfl (Nat.le_of_ble_eq_true rfl) (fun x hx => pX12_refuse_ok hh s2 (2 : Int32) x hx) rfl (fun x4 _ => ?_)
    exact s_iret (pc := 31) dX12_lacks_31 rfl (fun _ _ q => q)
theorem pX12_lacks_ok (hh : mo + 18 ≤ h.2.1) (s : RS) (a0 : Int32) : ∀ x, pX12_lacks s a0 = some x → aMet l 2 yX12_lacks cX12_lacks 2 (some .int) [.ref mo, .int a0] (rH mo h s) (some (.int x.1)) (rH mo h x.2) := fun x hx => a_meth (ini := false) (y := yX12_lacks) (by decide +kernel) (fun q => by cases q) (fun _ => Nat.le_of_ble_eq_true rfl) (pX12_lacks_w hh s a0) x hx _ _ ⟨rfl, rfl⟩
end
section
variable {l : Launch} {n0 S0 : Nat} {mo : Nat} {h : aH}
abbrev MX12_out : aM := (cX12_out, RX12, 3, (some .int), false)
def X12_out_j44 (s : RS) : Option (Int32 × RS) :=
  (pX12_refuse s (2 : Int32)).bind fun x4 =>
  some (x4.1, x4.2)
theorem X12_out_j44_ok (hh : mo + 18 ≤ h.2.1) (s : RS) : aS l 2 MX12_out n0 S0 (oΦ (fun (x : Int32 × RS) => (some (.int x.1), rH mo h x.2))) 44 [(0, .ref mo)] [] (rH mo h s) (X12_out_j44 s) := by
  unfold X12_out_j44
  refine s_aload_n (pc := 44) 0 dX12_out_44 rfl ?_
  refine s_iconst (v := 2) (pc := 45) dX12_out_45 (by decide) ?_
  refine s_callV (M := MX12_out) (As := [.int 2]) (st := []) (Ψ := fun (x : Int32 × RS) => (some (.int x.1), rH mo h x.2)) cv_X12_299 (by decide) (pc := 46) dX12_out_46 r_0 (r_lt (k := 0) hh (by decide)) rfl (Nat.le_of_ble_eq_true rfl) (fun x hx => pX12_refuse_ok hh s (2 : Int32) x hx) rfl (fun x4 _ => ?_)
  exact s_iret (pc := 49) dX12_out_49 rfl (fun _ _ q => q)
def pX12_out (s : RS) (a0 : Int32) (a1 : Int32) : Option (Int32 × RS) :=
  thn (uI s 1 (0 : Int32)) fun s1 =>
  thn (uI s1 0 (0 : Int32)) fun s2 =>
  (pX12_isSet s2 a0).bind fun x3 =>
  if x3 = true then
    (pX12_isChange s2 a1).bind fun x5 =>
    if x5 = true then
      (pX12_hangers s2 a1).bind fun x6 =>
      some (((a0 &&& (((1 : Int32) <<< (a1 &&& 31)) ^^^ (-1 : Int32))) &&& (x6 ^^^ (-1 : Int32))), s2)
    else
      X12_out_j44 s2
  else
    X12_out_j44 s2
theorem pX12_out_w (hh : mo + 18 ≤ h.2.1) (s : RS) (a0 : Int32) (a1 : Int32) : aS l 2 MX12_out n0 S0 (oΦ (fun (x : Int32 × RS) => (some (.int x.1), rH mo h x.2))) 0 [(0, .ref mo), (1, .int a0), (2, .int a1)] [] (rH mo h s) (pX12_out s a0 a1) := by
  unfold pX12_out
  refine s_aload_n (pc := 0) 0 dX12_out_0 rfl ?_
  refine s_iconst (v := 0) (pc := 1) dX12_out_1 (by decide) ?_
  refine rp_75 hh (pc := 2) dX12_out_2 rfl (fun s1 => ?_)
  refine s_aload_n (pc := 5) 0 dX12_out_5 rfl ?_
  refine s_iconst (v := 0) (pc := 6) dX12_out_6 (by decide) ?_
  refine rp_78 hh (pc := 7) dX12_out_7 rfl (fun s2 => ?_)
  refine s_aload_n (pc := 10) 0 dX12_out_10 rfl ?_
  refine s_iload_n (pc := 11) 1 dX12_out_11 rfl ?_
  refine s_callV (M := MX12_out) (As := [.int a0]) (st := []) (Ψ := fun (x : Bool) => (some (.int (b2i x)), rH mo h s2)) cv_X12_319 (by decide) (pc := 12) dX12_out_12 r_0 (r_lt (k := 0) hh (by decide)) rfl (Nat.le_of_ble_eq_true rfl) (fun x hx => pX12_isSet_ok hh s2 a0 x hx) rfl (fun x3 _ => ?_)
  refine s_if_eqB (tgt := 44) (pc := 15) dX12_out_15 (by decide) (fun _ => ?_) (fun _ => ?_)
  · refine s_aload_n (pc := 18) 0 dX12_out_18 rfl ?_
    refine s_iload_n (pc := 19) 2 dX12_out_19 rfl ?_
    refine s_callV (M := MX12_out) (As := [.int a1]) (st := []) (Ψ := fun (x : Bool) => (some (.int (b2i x)), rH mo h s2)) cv_X12_311 (by decide) (pc := 20) dX12_out_20 r_0 (r_lt (k := 0) hh (by decide)) rfl (Nat.le_of_ble_eq_true rfl) (fun x hx => pX12_isChange_ok hh s2 a1 x hx) rfl (fun x5 _ => ?_)
    refine s_if_eqB (tgt := 44) (pc := 23) dX12_out_23 (by decide) (fun _ => ?_) (fun _ => ?_)
    · refine s_iload_n (pc := 26) 1 dX12_out_26 rfl ?_
      refine s_iconst (v := 1) (pc := 27) dX12_out_27 (by decide) ?_
      refine s_iload_n (pc := 28) 2 dX12_out_28 rfl ?_
      refine s_ishl (pc := 29) dX12_out_29 ?_
      refine s_iconst (v := (-1)) (pc := 30) dX12_out_30 (by decide) ?_
      refine s_ixor (pc := 31) dX12_out_31 ?_
      refine s_iand (pc := 32) dX12_out_32 ?_
      refine s_aload_n (pc := 33) 0 dX12_out_33 rfl ?_
      refine s_iload_n (pc := 34) 2 dX12_out_34 rfl ?_
      refine s_callV (M := MX12_out) (As := [.int a1]) (st := [.int (a0 &&& (((1 : Int32) <<< (a1 &&& 31)) ^^^ (-1 : Int32)))]) (Ψ := fun (x : Int32) => (some (.int x), rH mo h s2)) cv_X12_316 (by decide) (pc := 35) dX12_out_35 r_0 (r_lt (k := 0) hh (by decide)) rfl (Nat.le_of_ble_eq_true rfl) (fun x hx => pX12_hangers_ok hh s2 a1 x hx) rfl (fun x6 _ => ?_)
      refine s_iconst (v := (-1)) (pc := 38) dX12_out_38 (by decide) ?_
      refine s_ixor (pc := 39) dX12_out_39 ?_
      refine s_iand (pc := 40) dX12_out_40 ?_
      refine s_goto (tgt := 49) (pc := 41) dX12_out_41 (by decide) ?_
      exact s_iret (pc := 49) dX12_out_49 rfl (fun _ _ q => q)
    · refine s_sub [0] rfl ?_
      exact X12_out_j44_ok hh s2
  · refine s_sub [0] rfl ?_
    exact X12_out_j44_ok hh s2
theorem pX12_out_ok (hh : mo + 18 ≤ h.2.1) (s : RS) (a0 : Int32) (a1 : Int32) : ∀ x, pX12_out s a0 a1 = some x → aMet l 2 yX12_out cX12_out 3 (some .int) [.ref mo, .int a0, .int a1] (rH mo h s) (some (.int x.1)) (rH mo h x.2) := fun x hx => a_meth (ini := false) (y := yX12_out) (by decide +kernel) (fun q => by cases q) (fun _ => Nat.le_of_ble_eq_true rfl) (pX12_out_w hh s a0 a1) x hx _ _ ⟨rfl, rfl⟩
end
section
variable {l : Launch} {n0 S0 : Nat} {mo : Nat} {h : aH}
abbrev MX12_pick : aM := (cX12_pick, RX12, 3, (some .int), false)
def X12_pick_j41 (s : RS) : Option (Int32 × RS) :=
  (pX12_refuse s (2 : Int32)).bind fun x4 =>
  some (x4.1, x4.2)
theorem X12_pick_j41_ok (hh : mo + 18 ≤ h.2.1) (s : RS) : aS l 2 MX12_pick n0 S0 (oΦ (fun (x : Int32 × RS) => (some (.int x.1), rH mo h x.2))) 41 [(0, .ref mo)] [] (rH mo h s) (X12_pick_j41 s) := by
  unfold X12_pick_j41
  refine s_aload_n (pc := 41) 0 dX12_pick_41 rfl ?_
  refine s_iconst (v := 2) (pc := 42) dX12_pick_42 (by decide) ?_
  refine s_callV (M := MX12_pick) (As := [.int 2]) (st := []) (Ψ := fun (x : Int32 × RS) => (some (.int x.1), rH mo h x.2)) cv_X12_299 (by decide) (pc := 43) dX12_pick_43 r_0 (r_lt (k := 0) hh (by decide)) rfl (Nat.le_of_ble_eq_true rfl) (fun x hx => pX12_refuse_ok hh s (2 : Int32) x hx) rfl (fun x4 _ => ?_)
  exact s_iret (pc := 46) dX12_pick_46 rfl (fun _ _ q => q)
def pX12_pick (s : RS) (a0 : Int32) (a1 : Int32) : Option (Int32 × RS) :=
  thn (uI s 1 (0 : Int32)) fun s1 =>
  thn (uI s1 0 (0 : Int32)) fun s2 =>
  (pX12_isSet s2 a0).bind fun x3 =>
  if x3 = true then
    (pX12_isChange s2 a1).bind fun x5 =>
    if x5 = true then
      (pX12_hangsOn s2 (0 : Int32) a1).bind fun x6 =>
      some (((a0 ||| ((1 : Int32) <<< (a1 &&& 31))) ||| x6), s2)
    else
      X12_pick_j41 s2
  else
    X12_pick_j41 s2
theorem pX12_pick_w (hh : mo + 18 ≤ h.2.1) (s : RS) (a0 : Int32) (a1 : Int32) : aS l 2 MX12_pick n0 S0 (oΦ (fun (x : Int32 × RS) => (some (.int x.1), rH mo h x.2))) 0 [(0, .ref mo), (1, .int a0), (2, .int a1)] [] (rH mo h s) (pX12_pick s a0 a1) := by
  unfold pX12_pick
  refine s_aload_n (pc := 0) 0 dX12_pick_0 rfl ?_
  refine s_iconst (v := 0) (pc := 1) dX12_pick_1 (by decide) ?_
  refine rp_75 hh (pc := 2) dX12_pick_2 rfl (fun s1 => ?_)
  refine s_aload_n (pc := 5) 0 dX12_pick_5 rfl ?_
  refine s_iconst (v := 0) (pc := 6) dX12_pick_6 (by decide) ?_
  refine rp_78 hh (pc := 7) dX12_pick_7 rfl (fun s2 => ?_)
  refine s_aload_n (pc := 10) 0 dX12_pick_10 rfl ?_
  refine s_iload_n (pc := 11) 1 dX12_pick_11 rfl ?_
  refine s_callV (M := MX12_pick) (As := [.int a0]) (st := []) (Ψ := fun (x : Bool) => (some (.int (b2i x)), rH mo h s2)) cv_X12_319 (by decide) (pc := 12) dX12_pick_12 r_0 (r_lt (k := 0) hh (by decide)) rfl (Nat.le_of_ble_eq_true rfl) (fun x hx => pX12_isSet_ok hh s2 a0 x hx) rfl (fun x3 _ => ?_)
  refine s_if_eqB (tgt := 41) (pc := 15) dX12_pick_15 (by decide) (fun _ => ?_) (fun _ => ?_)
  · refine s_aload_n (pc := 18) 0 dX12_pick_18 rfl ?_
    refine s_iload_n (pc := 19) 2 dX12_pick_19 rfl ?_
    refine s_callV (M := MX12_pick) (As := [.int a1]) (st := []) (Ψ := fun (x : Bool) => (some (.int (b2i x)), rH mo h s2)) cv_X12_311 (by decide) (pc := 20) dX12_pick_20 r_0 (r_lt (k := 0) hh (by decide)) rfl (Nat.le_of_ble_eq_true rfl) (fun x hx => pX12_isChange_ok hh s2 a1 x hx) rfl (fun x5 _ => ?_)
    refine s_if_eqB (tgt := 41) (pc := 23) dX12_pick_23 (by decide) (fun _ => ?_) (fun _ => ?_)
    · refine s_iload_n (pc := 26) 1 dX12_pick_26 rfl ?_
      refine s_iconst (v := 1) (pc := 27) dX12_pick_27 (by decide) ?_
      refine s_iload_n (pc := 28) 2 dX12_pick_28 rfl ?_
      refine s_ishl (pc := 29) dX12_pick_29 ?_
      refine s_ior (pc := 30) dX12_pick_30 ?_
      refine s_aload_n (pc := 31) 0 dX12_pick_31 rfl ?_
      refine s_iconst (v := 0) (pc := 32) dX12_pick_32 (by decide) ?_
      refine s_iload_n (pc := 33) 2 dX12_pick_33 rfl ?_
      refine s_callV (M := MX12_pick) (As := [.int 0, .int a1]) (st := [.int (a0 ||| ((1 : Int32) <<< (a1 &&& 31)))]) (Ψ := fun (x : Int32) => (some (.int x), rH mo h s2)) cv_X12_249 (by decide) (pc := 34) dX12_pick_34 r_0 (r_lt (k := 0) hh (by decide)) rfl (Nat.le_of_ble_eq_true rfl) (fun x hx => pX12_hangsOn_ok hh s2 (0 : Int32) a1 x hx) rfl (fun x6 _ => ?_)
      refine s_ior (pc := 37) dX12_pick_37 ?_
      refine s_goto (tgt := 46) (pc := 38) dX12_pick_38 (by decide) ?_
      exact s_iret (pc := 46) dX12_pick_46 rfl (fun _ _ q => q)
    · refine s_sub [0] rfl ?_
      exact X12_pick_j41_ok hh s2
  · refine s_sub [0] rfl ?_
    exact X12_pick_j41_ok hh s2
theorem pX12_pick_ok (hh : mo + 18 ≤ h.2.1) (s : RS) (a0 : Int32) (a1 : Int32) : ∀ x, pX12_pick s a0 a1 = some x → aMet l 2 yX12_pick cX12_pick 3 (some .int) [.ref mo, .int a0, .int a1] (rH mo h s) (some (.int x.1)) (rH mo h x.2) := fun x hx => a_meth (ini := false) (y := yX12_pick) (by decide +kernel) (fun q => by cases q) (fun _ => Nat.le_of_ble_eq_true rfl) (pX12_pick_w hh s a0 a1) x hx _ _ ⟨rfl, rfl⟩
end
section
variable {l : Launch} {n0 S0 : Nat} {mo : Nat} {h : aH}
abbrev MX12_heaviest : aM := (cX12_heaviest, RX12, 3, (some .int), false)
def X12_heaviest_x14 (l : Launch) (n0 S0 : Nat) (mo : Nat) (h : aH) (s : RS) : Int32 → Option Value → aH → Prop := fun (x : Int32) r h' => aEv l 2 MX12_heaviest n0 S0 55 [(0, .ref mo), (1, .int x)] [] (rH mo h s) r h'
def X12_heaviest_j49 (v1 : Int32) (v2 : Int32) (s : RS) : Option ((Int32 × Int32) ⊕ Int32) :=
  thn (v2 + 1) fun x3 =>
  some (.inl (v1, x3))
theorem X12_heaviest_j49_ok (hh : mo + 18 ≤ h.2.1) (v1 : Int32) (v2 : Int32) (s : RS) : aS l 2 MX12_heaviest n0 S0 (a_LΦ (X12_heaviest_x14 l n0 S0 mo h s) l 2 MX12_heaviest n0 S0 14 (fun (q : Int32 × Int32) => [(0, .ref mo), (1, .int q.1), (2, .int q.2)]) (fun _ => []) (fun (q : Int32 × Int32) => rH mo h s)) 49 [(0, .ref mo), (1, .int v1), (2, .int v2)] [] (rH mo h s) (X12_heaviest_j49 v1 v2 s) := by
  unfold X12_heaviest_j49
  refine s_iincT (pc := 49) 2 (lv' := fun x3 => [(2, .int x3), (0, .ref mo), (1, .int v1)]) dX12_heaviest_49 rfl rfl (by decide) (fun _ => rfl) (fun x3 => ?_)
  refine s_goto (tgt := 14) (pc := 52) dX12_heaviest_52 (by decide) ?_
  refine s_sub [1, 2, 0] rfl ?_
  exact s_ev (fun _ _ q => q)
def X12_heaviest_j47 (v2 : Int32) (s : RS) : Option ((Int32 × Int32) ⊕ Int32) :=
  X12_heaviest_j49 v2 v2 s
theorem X12_heaviest_j47_ok (hh : mo + 18 ≤ h.2.1) (v2 : Int32) (s : RS) : aS l 2 MX12_heaviest n0 S0 (a_LΦ (X12_heaviest_x14 l n0 S0 mo h s) l 2 MX12_heaviest n0 S0 14 (fun (q : Int32 × Int32) => [(0, .ref mo), (1, .int q.1), (2, .int q.2)]) (fun _ => []) (fun (q : Int32 × Int32) => rH mo h s)) 47 [(0, .ref mo), (2, .int v2)] [] (rH mo h s) (X12_heaviest_j47 v2 s) := by
  unfold X12_heaviest_j47
  refine s_iload_n (pc := 47) 1 dX12_heaviest_47 rfl ?_
  refine s_istore_n (lv' := [(1, .int v2), (0, .ref mo), (2, .int v2)]) (pc := 48) dX12_heaviest_48 (by decide) rfl ?_
  refine s_sub [1, 0, 2] rfl ?_
  exact X12_heaviest_j49_ok hh v2 v2 s
def X12_heaviest_b14 (v1 : Int32) (v2 : Int32) (s : RS) : Option ((Int32 × Int32) ⊕ Int32) :=
  g_in (0 : Int32) 1800 (
  if (s.2.2.1 4 (0 : Int32).toNatClampNeg) ≤ v2 then
    some (.inr v1)
  else
    if v1 < 0 then
      X12_heaviest_j47 v2 s
    else
      (pX12_hangers s v2).bind fun x4 =>
      (pX12_bits x4).bind fun x5 =>
      (pX12_hangers s v1).bind fun x6 =>
      (pX12_bits x6).bind fun x7 =>
      if x5 ≤ x7 then
        X12_heaviest_j49 v1 v2 s
      else
        X12_heaviest_j47 v2 s)
theorem X12_heaviest_b14_ok (hh : mo + 18 ≤ h.2.1) (v1 : Int32) (v2 : Int32) (s : RS) : aS l 2 MX12_heaviest n0 S0 (a_LΦ (X12_heaviest_x14 l n0 S0 mo h s) l 2 MX12_heaviest n0 S0 14 (fun (q : Int32 × Int32) => [(0, .ref mo), (1, .int q.1), (2, .int q.2)]) (fun _ => []) (fun (q : Int32 × Int32) => rH mo h s)) 14 [(0, .ref mo), (1, .int v1), (2, .int v2)] [] (rH mo h s) (X12_heaviest_b14 v1 v2 s) := by
  unfold X12_heaviest_b14
  refine s_iload_n (pc := 14) 2 dX12_heaviest_14 rfl ?_
  refine s_aload_n (pc := 15) 0 dX12_heaviest_15 rfl ?_
  refine rg_35 hh (pc := 16) dX12_heaviest_16 rfl ?_
  refine s_iconst (v := 0) (pc := 19) dX12_heaviest_19 (by decide) ?_
  refine rl_4 hh (pc := 20) dX12_heaviest_20 ?_
  refine s_icmp_ge (tgt := 55) (pc := 21) dX12_heaviest_21 (by decide) (fun _ => ?_) (fun _ => ?_)
  · refine s_sub [0, 1] rfl ?_
    exact s_ev (fun _ _ q => q)
  · refine s_iload_n (pc := 24) 1 dX12_heaviest_24 rfl ?_
    refine s_if_lt (tgt := 47) (pc := 25) dX12_heaviest_25 (by decide) (fun _ => ?_) (fun _ => ?_)
    · refine s_sub [0, 2] rfl ?_
      exact X12_heaviest_j47_ok hh v2 s
    · refine s_aload_n (pc := 28) 0 dX12_heaviest_28 rfl ?_
      refine s_iload_n (pc := 29) 2 dX12_heaviest_29 rfl ?_
      refine s_callV (M := MX12_heaviest) (As := [.int v2]) (st := []) (Ψ := fun (x : Int32) => (some (.int x), rH mo h s)) cv_X12_316 (by decide) (pc := 30) dX12_heaviest_30 r_0 (r_lt (k := 0) hh (by decide)) rfl (Nat.le_of_ble_eq_true rfl) (fun x hx => pX12_hangers_ok hh s v2 x hx) rfl (fun x4 _ => ?_)
      refine s_callS (M := MX12_heaviest) (As := [.int x4]) (st := []) (Ψ := fun (x : Int32) => (some (.int x), rH mo h s)) cs_X12_325 (by decide) (pc := 33) dX12_heaviest_33 rfl (Nat.le_of_ble_eq_true rfl) (fun x hx => pX12_bits_ok x4 x hx) rfl (fun x5 _ => ?_)
      refine s_aload_n (pc := 36) 0 dX12_heaviest_36 rfl ?_
      refine s_iload_n (pc := 37) 1 dX12_heaviest_37 rfl ?_
      refine s_callV (M := MX12_heaviest) (As := [.int v1]) (st := [.int x5]) (Ψ := fun (x : Int32) => (some (.int x), rH mo h s)) cv_X12_316 (by decide) (pc := 38) dX12_heaviest_38 r_0 (r_lt (k := 0) hh (by decide)) rfl (Nat.le_of_ble_eq_true rfl) (fun x hx => pX12_hangers_ok hh s v1 x hx) rfl (fun x6 _ => ?_)
      refine s_callS (M := MX12_heaviest) (As := [.int x6]) (st := [.int x5]) (Ψ := fun (x : Int32) => (some (.int x), rH mo h s)) cs_X12_325 (by decide) (pc := 41) dX12_heaviest_41 rfl (Nat.le_of_ble_eq_true rfl) (fun x hx => pX12_bits_ok x6 x hx) rfl (fun x7 _ => ?_)
      refine s_icmp_le (tgt := 49) (pc := 44) dX12_heaviest_44 (by decide) (fun _ => ?_) (fun _ => ?_)
      · exact X12_heaviest_j49_ok hh v1 v2 s
      · refine s_sub [0, 2] rfl ?_
        exact X12_heaviest_j47_ok hh v2 s
def pX12_heaviest (s : RS) : Option (Int32 × RS) :=
  thn (uI s 1 (0 : Int32)) fun s1 =>
  thn (uI s1 0 (0 : Int32)) fun s2 =>
  (a_loop (fun (q : Int32 × Int32) => X12_heaviest_b14 q.1 q.2 s2) FU ((-1 : Int32), (0 : Int32))).bind fun (t8 : Int32) =>
    if 0 ≤ t8 then
      some (t8, s2)
    else
      (pX12_refuse s2 (8 : Int32)).bind fun x9 =>
      some (x9.1, x9.2)
theorem pX12_heaviest_w (hh : mo + 18 ≤ h.2.1) (s : RS) : aS l 2 MX12_heaviest n0 S0 (oΦ (fun (x : Int32 × RS) => (some (.int x.1), rH mo h x.2))) 0 [(0, .ref mo)] [] (rH mo h s) (pX12_heaviest s) := by
  unfold pX12_heaviest
  refine s_aload_n (pc := 0) 0 dX12_heaviest_0 rfl ?_
  refine s_iconst (v := 0) (pc := 1) dX12_heaviest_1 (by decide) ?_
  refine rp_75 hh (pc := 2) dX12_heaviest_2 rfl (fun s1 => ?_)
  refine s_aload_n (pc := 5) 0 dX12_heaviest_5 rfl ?_
  refine s_iconst (v := 0) (pc := 6) dX12_heaviest_6 (by decide) ?_
  refine rp_78 hh (pc := 7) dX12_heaviest_7 rfl (fun s2 => ?_)
  refine s_iconst (v := (-1)) (pc := 10) dX12_heaviest_10 (by decide) ?_
  refine s_istore_n (lv' := [(1, .int (-1)), (0, .ref mo)]) (pc := 11) dX12_heaviest_11 (by decide) rfl ?_
  refine s_iconst (v := 0) (pc := 12) dX12_heaviest_12 (by decide) ?_
  refine s_istore_n (lv' := [(2, .int 0), (1, .int (-1)), (0, .ref mo)]) (pc := 13) dX12_heaviest_13 (by decide) rfl ?_
  refine s_bind (Ψ := X12_heaviest_x14 l n0 S0 mo h s2) ?_ ?_
  · refine s_sub [2, 1, 0] rfl ?_
    exact s_loop (lvf := fun (q : Int32 × Int32) => [(0, .ref mo), (1, .int q.1), (2, .int q.2)]) (stf := fun _ => []) (hf := fun (q : Int32 × Int32) => rH mo h s2) (fun q => X12_heaviest_b14_ok hh q.1 q.2 s2) FU ((-1 : Int32), (0 : Int32))
  · intro t8 z r h' hz hr
    refine (?_ : aS l 2 MX12_heaviest n0 S0 (oΦ (fun (x : Int32 × RS) => (some (.int x.1), rH mo h x.2))) 55 [(0, .ref mo), (1, .int t8)] [] (rH mo h s2) _) z hz r h' hr
    refine s_iload_n (pc := 55) 1 dX12_heaviest_55 rfl ?_
    refine s_if_ge (tgt := 68) (pc := 56) dX12_heaviest_56 (by decide) (fun _ => ?_) (fun _ => ?_)
    · refine s_iload_n (pc := 68) 1 dX12_heaviest_68 rfl ?_
      exact s_iret (pc := 69) dX12_heaviest_69 rfl (fun _ _ q => q)
    · refine s_aload_n (pc := 59) 0 dX12_heaviest_59 rfl ?_
      refine s_bipush (v := 8) (pc := 60) dX12_heaviest_60 (by decide) ?_
      refine s_callV (M := MX12_heaviest) (As := [.int 8]) (st := []) (Ψ := fun (x : Int32 × RS) => (some (.int x.1), rH mo h x.2)) cv_X12_299 (by decide) (pc := 62) dX12_heaviest_62 r_0 (r_lt (k := 0) hh (by decide)) rfl (Nat.le_of_ble_eq_true rfl) (fun x hx => pX12_refuse_ok hh s2 (8 : Int32) x hx) rfl (fun x9 _ => ?_)
      refine s_goto (tgt := 69) (pc := 65) dX12_heaviest_65 (by decide) ?_
      exact s_iret (pc := 69) dX12_heaviest_69 rfl (fun _ _ q => q)
theorem pX12_heaviest_ok (hh : mo + 18 ≤ h.2.1) (s : RS) : ∀ x, pX12_heaviest s = some x → aMet l 2 yX12_heaviest cX12_heaviest 3 (some .int) [.ref mo] (rH mo h s) (some (.int x.1)) (rH mo h x.2) := fun x hx => a_meth (ini := false) (y := yX12_heaviest) (by decide +kernel) (fun q => by cases q) (fun _ => Nat.le_of_ble_eq_true rfl) (pX12_heaviest_w hh s) x hx _ _ ⟨rfl, rfl⟩
end
section
variable {l : Launch} {n0 S0 : Nat} {mo : Nat} {h : aH}
abbrev MX12_alone : aM := (cX12_alone, RX12, 3, (some .int), false)
def X12_alone_x14 (l : Launch) (n0 S0 : Nat) (mo : Nat) (h : aH) (s : RS) : Int32 → Option Value → aH → Prop := fun (x : Int32) r h' => aEv l 2 MX12_alone n0 S0 57 [(1, .int x)] [] (rH mo h s) r h'
def X12_alone_j49 (v2 : Int32) (k0 : Int32) (k1 : Int32) (s : RS) : Option ((Int32 × Int32) ⊕ Int32) :=
  thn (k0 ||| k1) fun x4 =>
  thn (v2 + 1) fun x5 =>
  some (.inl (x4, x5))
theorem X12_alone_j49_ok (hh : mo + 18 ≤ h.2.1) (v2 : Int32) (k0 : Int32) (k1 : Int32) (s : RS) : aS l 2 MX12_alone n0 S0 (a_LΦ (X12_alone_x14 l n0 S0 mo h s) l 2 MX12_alone n0 S0 14 (fun (q : Int32 × Int32) => [(0, .ref mo), (1, .int q.1), (2, .int q.2)]) (fun _ => []) (fun (q : Int32 × Int32) => rH mo h s)) 49 [(0, .ref mo), (2, .int v2)] [.int k1, .int k0] (rH mo h s) (X12_alone_j49 v2 k0 k1 s) := by
  unfold X12_alone_j49
  refine s_ior (pc := 49) dX12_alone_49 ?_
  refine s_istore_nT (lv' := fun x4 => [(1, .int x4), (0, .ref mo), (2, .int v2)]) (pc := 50) dX12_alone_50 (by decide) (fun _ => rfl) (fun x4 => ?_)
  refine s_iincT (pc := 51) 2 (lv' := fun x5 => [(2, .int x5), (1, .int x4), (0, .ref mo)]) dX12_alone_51 rfl rfl (by decide) (fun _ => rfl) (fun x5 => ?_)
  refine s_goto (tgt := 14) (pc := 54) dX12_alone_54 (by decide) ?_
  refine s_sub [2, 1, 0] rfl ?_
  exact s_ev (fun _ _ q => q)
def X12_alone_j48 (v2 : Int32) (k0 : Int32) (s : RS) : Option ((Int32 × Int32) ⊕ Int32) :=
  X12_alone_j49 v2 k0 (0 : Int32) s
theorem X12_alone_j48_ok (hh : mo + 18 ≤ h.2.1) (v2 : Int32) (k0 : Int32) (s : RS) : aS l 2 MX12_alone n0 S0 (a_LΦ (X12_alone_x14 l n0 S0 mo h s) l 2 MX12_alone n0 S0 14 (fun (q : Int32 × Int32) => [(0, .ref mo), (1, .int q.1), (2, .int q.2)]) (fun _ => []) (fun (q : Int32 × Int32) => rH mo h s)) 48 [(0, .ref mo), (2, .int v2)] [.int k0] (rH mo h s) (X12_alone_j48 v2 k0 s) := by
  unfold X12_alone_j48
  refine s_iconst (v := 0) (pc := 48) dX12_alone_48 (by decide) ?_
  exact X12_alone_j49_ok hh v2 k0 (0 : Int32) s
def X12_alone_b14 (v1 : Int32) (v2 : Int32) (s : RS) : Option ((Int32 × Int32) ⊕ Int32) :=
  g_in (0 : Int32) 1800 (
  if (s.2.2.1 4 (0 : Int32).toNatClampNeg) ≤ v2 then
    some (.inr v1)
  else
    (pX12_kind s (0 : Int32) v2).bind fun x3 =>
    if x3 = 0 then
      (pX12_hangers s v2).bind fun x6 =>
      if x6 = 0 then
        X12_alone_j49 v2 v1 ((1 : Int32) <<< (v2 &&& 31)) s
      else
        X12_alone_j48 v2 v1 s
    else
      X12_alone_j48 v2 v1 s)
theorem X12_alone_b14_ok (hh : mo + 18 ≤ h.2.1) (v1 : Int32) (v2 : Int32) (s : RS) : aS l 2 MX12_alone n0 S0 (a_LΦ (X12_alone_x14 l n0 S0 mo h s) l 2 MX12_alone n0 S0 14 (fun (q : Int32 × Int32) => [(0, .ref mo), (1, .int q.1), (2, .int q.2)]) (fun _ => []) (fun (q : Int32 × Int32) => rH mo h s)) 14 [(0, .ref mo), (1, .int v1), (2, .int v2)] [] (rH mo h s) (X12_alone_b14 v1 v2 s) := by
  unfold X12_alone_b14
  refine s_iload_n (pc := 14) 2 dX12_alone_14 rfl ?_
  refine s_aload_n (pc := 15) 0 dX12_alone_15 rfl ?_
  refine rg_35 hh (pc := 16) dX12_alone_16 rfl ?_
  refine s_iconst (v := 0) (pc := 19) dX12_alone_19 (by decide) ?_
  refine rl_4 hh (pc := 20) dX12_alone_20 ?_
  refine s_icmp_ge (tgt := 57) (pc := 21) dX12_alone_21 (by decide) (fun _ => ?_) (fun _ => ?_)
  · refine s_sub [1] rfl ?_
    exact s_ev (fun _ _ q => q)
  · refine s_iload_n (pc := 24) 1 dX12_alone_24 rfl ?_
    refine s_aload_n (pc := 25) 0 dX12_alone_25 rfl ?_
    refine s_iconst (v := 0) (pc := 26) dX12_alone_26 (by decide) ?_
    refine s_iload_n (pc := 27) 2 dX12_alone_27 rfl ?_
    refine s_callV (M := MX12_alone) (As := [.int 0, .int v2]) (st := [.int v1]) (Ψ := fun (x : Int32) => (some (.int x), rH mo h s)) cv_X12_239 (by decide) (pc := 28) dX12_alone_28 r_0 (r_lt (k := 0) hh (by decide)) rfl (Nat.le_of_ble_eq_true rfl) (fun x hx => pX12_kind_ok hh s (0 : Int32) v2 x hx) rfl (fun x3 _ => ?_)
    refine s_if_ne (tgt := 48) (pc := 31) dX12_alone_31 (by decide) (fun _ => ?_) (fun _ => ?_)
    · refine s_aload_n (pc := 34) 0 dX12_alone_34 rfl ?_
      refine s_iload_n (pc := 35) 2 dX12_alone_35 rfl ?_
      refine s_callV (M := MX12_alone) (As := [.int v2]) (st := [.int v1]) (Ψ := fun (x : Int32) => (some (.int x), rH mo h s)) cv_X12_316 (by decide) (pc := 36) dX12_alone_36 r_0 (r_lt (k := 0) hh (by decide)) rfl (Nat.le_of_ble_eq_true rfl) (fun x hx => pX12_hangers_ok hh s v2 x hx) rfl (fun x6 _ => ?_)
      refine s_if_ne (tgt := 48) (pc := 39) dX12_alone_39 (by decide) (fun _ => ?_) (fun _ => ?_)
      · refine s_iconst (v := 1) (pc := 42) dX12_alone_42 (by decide) ?_
        refine s_iload_n (pc := 43) 2 dX12_alone_43 rfl ?_
        refine s_ishl (pc := 44) dX12_alone_44 ?_
        refine s_goto (tgt := 49) (pc := 45) dX12_alone_45 (by decide) ?_
        refine s_sub [0, 2] rfl ?_
        exact X12_alone_j49_ok hh v2 v1 ((1 : Int32) <<< (v2 &&& 31)) s
      · refine s_sub [0, 2] rfl ?_
        exact X12_alone_j48_ok hh v2 v1 s
    · refine s_sub [0, 2] rfl ?_
      exact X12_alone_j48_ok hh v2 v1 s
def pX12_alone (s : RS) : Option (Int32 × RS) :=
  thn (uI s 1 (0 : Int32)) fun s1 =>
  thn (uI s1 0 (0 : Int32)) fun s2 =>
  (a_loop (fun (q : Int32 × Int32) => X12_alone_b14 q.1 q.2 s2) FU ((0 : Int32), (0 : Int32))).bind fun (t7 : Int32) =>
    some (t7, s2)
theorem pX12_alone_w (hh : mo + 18 ≤ h.2.1) (s : RS) : aS l 2 MX12_alone n0 S0 (oΦ (fun (x : Int32 × RS) => (some (.int x.1), rH mo h x.2))) 0 [(0, .ref mo)] [] (rH mo h s) (pX12_alone s) := by
  unfold pX12_alone
  refine s_aload_n (pc := 0) 0 dX12_alone_0 rfl ?_
  refine s_iconst (v := 0) (pc := 1) dX12_alone_1 (by decide) ?_
  refine rp_75 hh (pc := 2) dX12_alone_2 rfl (fun s1 => ?_)
  refine s_aload_n (pc := 5) 0 dX12_alone_5 rfl ?_
  refine s_iconst (v := 0) (pc := 6) dX12_alone_6 (by decide) ?_
  refine rp_78 hh (pc := 7) dX12_alone_7 rfl (fun s2 => ?_)
  refine s_iconst (v := 0) (pc := 10) dX12_alone_10 (by decide) ?_
  refine s_istore_n (lv' := [(1, .int 0), (0, .ref mo)]) (pc := 11) dX12_alone_11 (by decide) rfl ?_
  refine s_iconst (v := 0) (pc := 12) dX12_alone_12 (by decide) ?_
  refine s_istore_n (lv' := [(2, .int 0), (1, .int 0), (0, .ref mo)]) (pc := 13) dX12_alone_13 (by decide) rfl ?_
  refine s_bind (Ψ := X12_alone_x14 l n0 S0 mo h s2) ?_ ?_
  · refine s_sub [2, 1, 0] rfl ?_
    exact s_loop (lvf := fun (q : Int32 × Int32) => [(0, .ref mo), (1, .int q.1), (2, .int q.2)]) (stf := fun _ => []) (hf := fun (q : Int32 × Int32) => rH mo h s2) (fun q => X12_alone_b14_ok hh q.1 q.2 s2) FU ((0 : Int32), (0 : Int32))
  · intro t7 z r h' hz hr
    refine (?_ : aS l 2 MX12_alone n0 S0 (oΦ (fun (x : Int32 × RS) => (some (.int x.1), rH mo h x.2))) 57 [(1, .int t7)] [] (rH mo h s2) _) z hz r h' hr
    refine s_iload_n (pc := 57) 0 dX12_alone_57 rfl ?_
    exact s_iret (pc := 58) dX12_alone_58 rfl (fun _ _ q => q)
theorem pX12_alone_ok (hh : mo + 18 ≤ h.2.1) (s : RS) : ∀ x, pX12_alone s = some x → aMet l 2 yX12_alone cX12_alone 3 (some .int) [.ref mo] (rH mo h s) (some (.int x.1)) (rH mo h x.2) := fun x hx => a_meth (ini := false) (y := yX12_alone) (by decide +kernel) (fun q => by cases q) (fun _ => Nat.le_of_ble_eq_true rfl) (pX12_alone_w hh s) x hx _ _ ⟨rfl, rfl⟩
end
section
variable {l : Launch} {n0 S0 : Nat} {mo : Nat} {h : aH}
abbrev MX12_isLeftOut : aM := (cX12_isLeftOut, RX12, 4, (some .boolean), false)
def X12_isLeftOut_x2 (l : Launch) (n0 S0 : Nat) (mo : Nat) (h : aH) (v1 : Int32) (v2 : Int32) (s : RS) : (Unit ⊕ Unit) → Option Value → aH → Prop := Sum.elim (fun (x : Unit) (r : Option Value) (h' : aH) => aEv l 1 MX12_isLeftOut n0 S0 43 [] [] (rH mo h s) r h') (fun (x : Unit) (r : Option Value) (h' : aH) => aEv l 1 MX12_isLeftOut n0 S0 51 [] [] (rH mo h s) r h')
def X12_isLeftOut_j45 (v1 : Int32) (v2 : Int32) (v3 : Int32) (s : RS) : Option (Int32 ⊕ (Unit ⊕ Unit)) :=
  thn (v3 + 1) fun x2 =>
  some (.inl x2)
theorem X12_isLeftOut_j45_ok (hh : mo + 18 ≤ h.2.1) (v1 : Int32) (v2 : Int32) (v3 : Int32) (s : RS) : aS l 1 MX12_isLeftOut n0 S0 (a_LΦ (X12_isLeftOut_x2 l n0 S0 mo h v1 v2 s) l 1 MX12_isLeftOut n0 S0 2 (fun (q : Int32) => [(0, .ref mo), (1, .int v1), (2, .int v2), (3, .int q)]) (fun _ => []) (fun (q : Int32) => rH mo h s)) 45 [(0, .ref mo), (1, .int v1), (2, .int v2), (3, .int v3)] [] (rH mo h s) (X12_isLeftOut_j45 v1 v2 v3 s) := by
  unfold X12_isLeftOut_j45
  refine s_iincT (pc := 45) 3 (lv' := fun x2 => [(3, .int x2), (0, .ref mo), (1, .int v1), (2, .int v2)]) dX12_isLeftOut_45 rfl rfl (by decide) (fun _ => rfl) (fun x2 => ?_)
  refine s_goto (tgt := 2) (pc := 48) dX12_isLeftOut_48 (by decide) ?_
  refine s_sub [1, 2, 3, 0] rfl ?_
  exact s_ev (fun _ _ q => q)
def X12_isLeftOut_b2 (v1 : Int32) (v2 : Int32) (v3 : Int32) (s : RS) : Option (Int32 ⊕ (Unit ⊕ Unit)) :=
  g_in (0 : Int32) 1800 (
  if (s.2.2.1 4 (0 : Int32).toNatClampNeg) ≤ v3 then
    some (.inr (.inr ()))
  else
    (pX12_hasIn v1 v3).bind fun x1 =>
    if x1 = true then
      (pX12_kind s (0 : Int32) v3).bind fun x3 =>
      if x3 = (4 : Int32) then
        g_in ((66 : Int32) + v3) 1800 (
        if (s.2.2.1 4 ((66 : Int32) + v3).toNatClampNeg) = v2 then
          some (.inr (.inl ()))
        else
          X12_isLeftOut_j45 v1 v2 v3 s)
      else
        X12_isLeftOut_j45 v1 v2 v3 s
    else
      X12_isLeftOut_j45 v1 v2 v3 s)
theorem X12_isLeftOut_b2_ok (hh : mo + 18 ≤ h.2.1) (v1 : Int32) (v2 : Int32) (v3 : Int32) (s : RS) : aS l 1 MX12_isLeftOut n0 S0 (a_LΦ (X12_isLeftOut_x2 l n0 S0 mo h v1 v2 s) l 1 MX12_isLeftOut n0 S0 2 (fun (q : Int32) => [(0, .ref mo), (1, .int v1), (2, .int v2), (3, .int q)]) (fun _ => []) (fun (q : Int32) => rH mo h s)) 2 [(0, .ref mo), (1, .int v1), (2, .int v2), (3, .int v3)] [] (rH mo h s) (X12_isLeftOut_b2 v1 v2 v3 s) := by
  unfold X12_isLeftOut_b2
  refine s_iload_n (pc := 2) 3 dX12_isLeftOut_2 rfl ?_
  refine s_aload_n (pc := 3) 0 dX12_isLeftOut_3 rfl ?_
  refine rg_35 hh (pc := 4) dX12_isLeftOut_4 rfl ?_
  refine s_iconst (v := 0) (pc := 7) dX12_isLeftOut_7 (by decide) ?_
  refine rl_4 hh (pc := 8) dX12_isLeftOut_8 ?_
  refine s_icmp_ge (tgt := 51) (pc := 9) dX12_isLeftOut_9 (by decide) (fun _ => ?_) (fun _ => ?_)
  · refine s_sub [] rfl ?_
    exact s_ev (fun _ _ q => q)
  · refine s_iload_n (pc := 12) 1 dX12_isLeftOut_12 rfl ?_
    refine s_iload_n (pc := 13) 3 dX12_isLeftOut_13 rfl ?_
    refine s_callS (M := MX12_isLeftOut) (As := [.int v1, .int v3]) (st := []) (Ψ := fun (x : Bool) => (some (.int (b2i x)), rH mo h s)) cs_X12_302 (by decide) (pc := 14) dX12_isLeftOut_14 rfl (Nat.le_of_ble_eq_true rfl) (fun x hx => pX12_hasIn_ok v1 v3 x hx) rfl (fun x1 _ => ?_)
    refine s_if_eqB (tgt := 45) (pc := 17) dX12_isLeftOut_17 (by decide) (fun _ => ?_) (fun _ => ?_)
    · refine s_aload_n (pc := 20) 0 dX12_isLeftOut_20 rfl ?_
      refine s_iconst (v := 0) (pc := 21) dX12_isLeftOut_21 (by decide) ?_
      refine s_iload_n (pc := 22) 3 dX12_isLeftOut_22 rfl ?_
      refine s_callV (M := MX12_isLeftOut) (As := [.int 0, .int v3]) (st := []) (Ψ := fun (x : Int32) => (some (.int x), rH mo h s)) cv_X12_239 (by decide) (pc := 23) dX12_isLeftOut_23 r_0 (r_lt (k := 0) hh (by decide)) rfl (Nat.le_of_ble_eq_true rfl) (fun x hx => pX12_kind_ok hh s (0 : Int32) v3 x hx) rfl (fun x3 _ => ?_)
      refine s_iconst (v := 4) (pc := 26) dX12_isLeftOut_26 (by decide) ?_
      refine s_icmp_ne (tgt := 45) (pc := 27) dX12_isLeftOut_27 (by decide) (fun _ => ?_) (fun _ => ?_)
      · refine s_aload_n (pc := 30) 0 dX12_isLeftOut_30 rfl ?_
        refine rg_35 hh (pc := 31) dX12_isLeftOut_31 rfl ?_
        refine s_bipush (v := 66) (pc := 34) dX12_isLeftOut_34 (by decide) ?_
        refine s_iload_n (pc := 36) 3 dX12_isLeftOut_36 rfl ?_
        refine s_iadd (pc := 37) dX12_isLeftOut_37 ?_
        refine rl_4 hh (pc := 38) dX12_isLeftOut_38 ?_
        refine s_iload_n (pc := 39) 2 dX12_isLeftOut_39 rfl ?_
        refine s_icmp_ne (tgt := 45) (pc := 40) dX12_isLeftOut_40 (by decide) (fun _ => ?_) (fun _ => ?_)
        · refine s_sub [] rfl ?_
          exact s_ev (fun _ _ q => q)
        · exact X12_isLeftOut_j45_ok hh v1 v2 v3 s
      · exact X12_isLeftOut_j45_ok hh v1 v2 v3 s
    · exact X12_isLeftOut_j45_ok hh v1 v2 v3 s
def pX12_isLeftOut (s : RS) (a0 : Int32) (a1 : Int32) : Option Bool :=
  (a_loop (fun (q : Int32) => X12_isLeftOut_b2 a0 a1 q s) FU (0 : Int32)).bind (Sum.elim (fun (t4 : Unit) =>
      some true)
    (fun (t5 : Unit) =>
      some false))
theorem pX12_isLeftOut_w (hh : mo + 18 ≤ h.2.1) (s : RS) (a0 : Int32) (a1 : Int32) : aS l 1 MX12_isLeftOut n0 S0 (oΦ (fun (x : Bool) => (some (.int (b2i x)), rH mo h s))) 0 [(0, .ref mo), (1, .int a0), (2, .int a1)] [] (rH mo h s) (pX12_isLeftOut s a0 a1) := by
  unfold pX12_isLeftOut
  refine s_iconst (v := 0) (pc := 0) dX12_isLeftOut_0 (by decide) ?_
  refine s_istore_n (lv' := [(3, .int 0), (0, .ref mo), (1, .int a0), (2, .int a1)]) (pc := 1) dX12_isLeftOut_1 (by decide) rfl ?_
  refine s_bind (Ψ := X12_isLeftOut_x2 l n0 S0 mo h a0 a1 s) ?_ ?_
  · refine s_sub [1, 2, 3, 0] rfl ?_
    exact s_loop (lvf := fun (q : Int32) => [(0, .ref mo), (1, .int a0), (2, .int a1), (3, .int q)]) (stf := fun _ => []) (hf := fun (q : Int32) => rH mo h s) (fun q => X12_isLeftOut_b2_ok hh a0 a1 q s) FU (0 : Int32)
  · intro x z r h' hz hr
    rcases x with t4 | t5
    · refine (?_ : aS l 1 MX12_isLeftOut n0 S0 (oΦ (fun (x : Bool) => (some (.int (b2i x)), rH mo h s))) 43 [] [] (rH mo h s) _) z (show _ = some z from hz) r h' hr
      refine s_iconst (v := 1) (pc := 43) dX12_isLeftOut_43 (by decide) ?_
      exact s_zretB (b := true) (pc := 44) dX12_isLeftOut_44 rfl (fun _ _ q => q)
    · refine (?_ : aS l 1 MX12_isLeftOut n0 S0 (oΦ (fun (x : Bool) => (some (.int (b2i x)), rH mo h s))) 51 [] [] (rH mo h s) _) z (show _ = some z from hz) r h' hr
      refine s_iconst (v := 0) (pc := 51) dX12_isLeftOut_51 (by decide) ?_
      exact s_zretB (b := false) (pc := 52) dX12_isLeftOut_52 rfl (fun _ _ q => q)
theorem pX12_isLeftOut_ok (hh : mo + 18 ≤ h.2.1) (s : RS) (a0 : Int32) (a1 : Int32) : ∀ x, pX12_isLeftOut s a0 a1 = some x → aMet l 1 yX12_isLeftOut cX12_isLeftOut 4 (some .boolean) [.ref mo, .int a0, .int a1] (rH mo h s) (some (.int (b2i x))) (rH mo h s) := fun x hx => a_meth (ini := false) (y := yX12_isLeftOut) (by decide +kernel) (fun q => by cases q) (fun _ => Nat.le_of_ble_eq_true rfl) (pX12_isLeftOut_w hh s a0 a1) x hx _ _ ⟨rfl, rfl⟩
end
section
variable {l : Launch} {n0 S0 : Nat} {mo : Nat} {h : aH}
abbrev MX12_isSettled : aM := (cX12_isSettled, RX12, 5, (some .boolean), false)
def X12_isSettled_x3 (l : Launch) (n0 S0 : Nat) (mo : Nat) (h : aH) (v1 : Int32) (v2 : Int32) (v3 : Int32) (s : RS) : (Unit ⊕ Unit) → Option Value → aH → Prop := Sum.elim (fun (x : Unit) (r : Option Value) (h' : aH) => aEv l 1 MX12_isSettled n0 S0 93 [] [] (rH mo h s) r h') (fun (x : Unit) (r : Option Value) (h' : aH) => aEv l 1 MX12_isSettled n0 S0 101 [] [] (rH mo h s) r h')
def X12_isSettled_j95 (v1 : Int32) (v2 : Int32) (v3 : Int32) (v4 : Int32) (s : RS) : Option (Int32 ⊕ (Unit ⊕ Unit)) :=
  thn (v4 + 1) fun x2 =>
  some (.inl x2)
theorem X12_isSettled_j95_ok (hh : mo + 18 ≤ h.2.1) (v1 : Int32) (v2 : Int32) (v3 : Int32) (v4 : Int32) (s : RS) : aS l 1 MX12_isSettled n0 S0 (a_LΦ (X12_isSettled_x3 l n0 S0 mo h v1 v2 v3 s) l 1 MX12_isSettled n0 S0 3 (fun (q : Int32) => [(0, .ref mo), (1, .int v1), (2, .int v2), (3, .int v3), (4, .int q)]) (fun _ => []) (fun (q : Int32) => rH mo h s)) 95 [(0, .ref mo), (1, .int v1), (2, .int v2), (3, .int v3), (4, .int v4)] [] (rH mo h s) (X12_isSettled_j95 v1 v2 v3 v4 s) := by
  unfold X12_isSettled_j95
  refine s_iincT (pc := 95) 4 (lv' := fun x2 => [(4, .int x2), (0, .ref mo), (1, .int v1), (2, .int v2), (3, .int v3)]) dX12_isSettled_95 rfl rfl (by decide) (fun _ => rfl) (fun x2 => ?_)
  refine s_goto (tgt := 3) (pc := 98) dX12_isSettled_98 (by decide) ?_
  refine s_sub [1, 2, 3, 4, 0] rfl ?_
  exact s_ev (fun _ _ q => q)
def X12_isSettled_j65 (v1 : Int32) (v2 : Int32) (v3 : Int32) (v4 : Int32) (s : RS) : Option (Int32 ⊕ (Unit ⊕ Unit)) :=
  g_in ((50 : Int32) + v4) 1800 (
  if (s.2.2.1 4 ((50 : Int32) + v4).toNatClampNeg) = v3 then
    g_in ((66 : Int32) + v4) 1800 (
    if (s.2.2.1 4 ((66 : Int32) + v4).toNatClampNeg) = v2 then
      some (.inr (.inl ()))
    else
      X12_isSettled_j95 v1 v2 v3 v4 s)
  else
    X12_isSettled_j95 v1 v2 v3 v4 s)
theorem X12_isSettled_j65_ok (hh : mo + 18 ≤ h.2.1) (v1 : Int32) (v2 : Int32) (v3 : Int32) (v4 : Int32) (s : RS) : aS l 1 MX12_isSettled n0 S0 (a_LΦ (X12_isSettled_x3 l n0 S0 mo h v1 v2 v3 s) l 1 MX12_isSettled n0 S0 3 (fun (q : Int32) => [(0, .ref mo), (1, .int v1), (2, .int v2), (3, .int v3), (4, .int q)]) (fun _ => []) (fun (q : Int32) => rH mo h s)) 65 [(0, .ref mo), (1, .int v1), (2, .int v2), (3, .int v3), (4, .int v4)] [] (rH mo h s) (X12_isSettled_j65 v1 v2 v3 v4 s) := by
  unfold X12_isSettled_j65
  refine s_aload_n (pc := 65) 0 dX12_isSettled_65 rfl ?_
  refine rg_35 hh (pc := 66) dX12_isSettled_66 rfl ?_
  refine s_bipush (v := 50) (pc := 69) dX12_isSettled_69 (by decide) ?_
  refine s_iload (pc := 71) 4 dX12_isSettled_71 rfl ?_
  refine s_iadd (pc := 73) dX12_isSettled_73 ?_
  refine rl_4 hh (pc := 74) dX12_isSettled_74 ?_
  refine s_iload_n (pc := 75) 3 dX12_isSettled_75 rfl ?_
  refine s_icmp_ne (tgt := 95) (pc := 76) dX12_isSettled_76 (by decide) (fun _ => ?_) (fun _ => ?_)
  · refine s_aload_n (pc := 79) 0 dX12_isSettled_79 rfl ?_
    refine rg_35 hh (pc := 80) dX12_isSettled_80 rfl ?_
    refine s_bipush (v := 66) (pc := 83) dX12_isSettled_83 (by decide) ?_
    refine s_iload (pc := 85) 4 dX12_isSettled_85 rfl ?_
    refine s_iadd (pc := 87) dX12_isSettled_87 ?_
    refine rl_4 hh (pc := 88) dX12_isSettled_88 ?_
    refine s_iload_n (pc := 89) 2 dX12_isSettled_89 rfl ?_
    refine s_icmp_ne (tgt := 95) (pc := 90) dX12_isSettled_90 (by decide) (fun _ => ?_) (fun _ => ?_)
    · refine s_sub [] rfl ?_
      exact s_ev (fun _ _ q => q)
    · exact X12_isSettled_j95_ok hh v1 v2 v3 v4 s
  · exact X12_isSettled_j95_ok hh v1 v2 v3 v4 s
def X12_isSettled_b3 (v1 : Int32) (v2 : Int32) (v3 : Int32) (v4 : Int32) (s : RS) : Option (Int32 ⊕ (Unit ⊕ Unit)) :=
  g_in (0 : Int32) 1800 (
  if (s.2.2.1 4 (0 : Int32).toNatClampNeg) ≤ v4 then
    some (.inr (.inr ()))
  else
    (pX12_hasIn v1 v4).bind fun x1 =>
    if x1 = true then
      (pX12_kind s (0 : Int32) v4).bind fun x3 =>
      if x3 = (4 : Int32) then
        g_in ((50 : Int32) + v4) 1800 (
        if (s.2.2.1 4 ((50 : Int32) + v4).toNatClampNeg) = v2 then
          g_in ((66 : Int32) + v4) 1800 (
          if (s.2.2.1 4 ((66 : Int32) + v4).toNatClampNeg) = v3 then
            some (.inr (.inl ()))
          else
            X12_isSettled_j65 v1 v2 v3 v4 s)
        else
          X12_isSettled_j65 v1 v2 v3 v4 s)
      else
        X12_isSettled_j95 v1 v2 v3 v4 s
    else
      X12_isSettled_j95 v1 v2 v3 v4 s)
theorem X12_isSettled_b3_ok (hh : mo + 18 ≤ h.2.1) (v1 : Int32) (v2 : Int32) (v3 : Int32) (v4 : Int32) (s : RS) : aS l 1 MX12_isSettled n0 S0 (a_LΦ (X12_isSettled_x3 l n0 S0 mo h v1 v2 v3 s) l 1 MX12_isSettled n0 S0 3 (fun (q : Int32) => [(0, .ref mo), (1, .int v1), (2, .int v2), (3, .int v3), (4, .int q)]) (fun _ => []) (fun (q : Int32) => rH mo h s)) 3 [(0, .ref mo), (1, .int v1), (2, .int v2), (3, .int v3), (4, .int v4)] [] (rH mo h s) (X12_isSettled_b3 v1 v2 v3 v4 s) := by
  unfold X12_isSettled_b3
  refine s_iload (pc := 3) 4 dX12_isSettled_3 rfl ?_
  refine s_aload_n (pc := 5) 0 dX12_isSettled_5 rfl ?_
  refine rg_35 hh (pc := 6) dX12_isSettled_6 rfl ?_
  refine s_iconst (v := 0) (pc := 9) dX12_isSettled_9 (by decide) ?_
  refine rl_4 hh (pc := 10) dX12_isSettled_10 ?_
  refine s_icmp_ge (tgt := 101) (pc := 11) dX12_isSettled_11 (by decide) (fun _ => ?_) (fun _ => ?_)
  · refine s_sub [] rfl ?_
    exact s_ev (fun _ _ q => q)
  · refine s_iload_n (pc := 14) 1 dX12_isSettled_14 rfl ?_
    refine s_iload (pc := 15) 4 dX12_isSettled_15 rfl ?_
    refine s_callS (M := MX12_isSettled) (As := [.int v1, .int v4]) (st := []) (Ψ := fun (x : Bool) => (some (.int (b2i x)), rH mo h s)) cs_X12_302 (by decide) (pc := 17) dX12_isSettled_17 rfl (Nat.le_of_ble_eq_true rfl) (fun x hx => pX12_hasIn_ok v1 v4 x hx) rfl (fun x1 _ => ?_)
    refine s_if_eqB (tgt := 95) (pc := 20) dX12_isSettled_20 (by decide) (fun _ => ?_) (fun _ => ?_)
    · refine s_aload_n (pc := 23) 0 dX12_isSettled_23 rfl ?_
      refine s_iconst (v := 0) (pc := 24) dX12_isSettled_24 (by decide) ?_
      refine s_iload (pc := 25) 4 dX12_isSettled_25 rfl ?_
      refine s_callV (M := MX12_isSettled) (As := [.int 0, .int v4]) (st := []) (Ψ := fun (x : Int32) => (some (.int x), rH mo h s)) cv_X12_239 (by decide) (pc := 27) dX12_isSettled_27 r_0 (r_lt (k := 0) hh (by decide)) rfl (Nat.le_of_ble_eq_true rfl) (fun x hx => pX12_kind_ok hh s (0 : Int32) v4 x hx) rfl (fun x3 _ => ?_)
      refine s_iconst (v := 4) (pc := 30) dX12_isSettled_30 (by decide) ?_
      refine s_icmp_eq (tgt := 37) (pc := 31) dX12_isSettled_31 (by decide) (fun _ => ?_) (fun _ => ?_)
      · refine s_aload_n (pc := 37) 0 dX12_isSettled_37 rfl ?_
        refine rg_35 hh (pc := 38) dX12_isSettled_38 rfl ?_
        refine s_bipush (v := 50) (pc := 41) dX12_isSettled_41 (by decide) ?_
        refine s_iload (pc := 43) 4 dX12_isSettled_43 rfl ?_
        refine s_iadd (pc := 45) dX12_isSettled_45 ?_
        refine rl_4 hh (pc := 46) dX12_isSettled_46 ?_
        refine s_iload_n (pc := 47) 2 dX12_isSettled_47 rfl ?_
        refine s_icmp_ne (tgt := 65) (pc := 48) dX12_isSettled_48 (by decide) (fun _ => ?_) (fun _ => ?_)
        · refine s_aload_n (pc := 51) 0 dX12_isSettled_51 rfl ?_
          refine rg_35 hh (pc := 52) dX12_isSettled_52 rfl ?_
          refine s_bipush (v := 66) (pc := 55) dX12_isSettled_55 (by decide) ?_
          refine s_iload (pc := 57) 4 dX12_isSettled_57 rfl ?_
          refine s_iadd (pc := 59) dX12_isSettled_59 ?_
          refine rl_4 hh (pc := 60) dX12_isSettled_60 ?_
          refine s_iload_n (pc := 61) 3 dX12_isSettled_61 rfl ?_
          refine s_icmp_eq (tgt := 93) (pc := 62) dX12_isSettled_62 (by decide) (fun _ => ?_) (fun _ => ?_)
          · refine s_sub [] rfl ?_
            exact s_ev (fun _ _ q => q)
          · exact X12_isSettled_j65_ok hh v1 v2 v3 v4 s
        · exact X12_isSettled_j65_ok hh v1 v2 v3 v4 s
      · refine s_goto (tgt := 95) (pc := 34) dX12_isSettled_34 (by decide) ?_
        exact X12_isSettled_j95_ok hh v1 v2 v3 v4 s
    · exact X12_isSettled_j95_ok hh v1 v2 v3 v4 s
def pX12_isSettled (s : RS) (a0 : Int32) (a1 : Int32) (a2 : Int32) : Option Bool :=
  (a_loop (fun (q : Int32) => X12_isSettled_b3 a0 a1 a2 q s) FU (0 : Int32)).bind (Sum.elim (fun (t4 : Unit) =>
      some true)
    (fun (t5 : Unit) =>
      some false))
theorem pX12_isSettled_w (hh : mo + 18 ≤ h.2.1) (s : RS) (a0 : Int32) (a1 : Int32) (a2 : Int32) : aS l 1 MX12_isSettled n0 S0 (oΦ (fun (x : Bool) => (some (.int (b2i x)), rH mo h s))) 0 [(0, .ref mo), (1, .int a0), (2, .int a1), (3, .int a2)] [] (rH mo h s) (pX12_isSettled s a0 a1 a2) := by
  unfold pX12_isSettled
  refine s_iconst (v := 0) (pc := 0) dX12_isSettled_0 (by decide) ?_
  refine s_istore (lv' := [(4, .int 0), (0, .ref mo), (1, .int a0), (2, .int a1), (3, .int a2)]) (pc := 1) dX12_isSettled_1 (by decide) rfl ?_
  refine s_bind (Ψ := X12_isSettled_x3 l n0 S0 mo h a0 a1 a2 s) ?_ ?_
  · refine s_sub [1, 2, 3, 4, 0] rfl ?_
    exact s_loop (lvf := fun (q : Int32) => [(0, .ref mo), (1, .int a0), (2, .int a1), (3, .int a2), (4, .int q)]) (stf := fun _ => []) (hf := fun (q : Int32) => rH mo h s) (fun q => X12_isSettled_b3_ok hh a0 a1 a2 q s) FU (0 : Int32)
  · intro x z r h' hz hr
    rcases x with t4 | t5
    · refine (?_ : aS l 1 MX12_isSettled n0 S0 (oΦ (fun (x : Bool) => (some (.int (b2i x)), rH mo h s))) 93 [] [] (rH mo h s) _) z (show _ = some z from hz) r h' hr
      refine s_iconst (v := 1) (pc := 93) dX12_isSettled_93 (by decide) ?_
      exact s_zretB (b := true) (pc := 94) dX12_isSettled_94 rfl (fun _ _ q => q)
    · refine (?_ : aS l 1 MX12_isSettled n0 S0 (oΦ (fun (x : Bool) => (some (.int (b2i x)), rH mo h s))) 101 [] [] (rH mo h s) _) z (show _ = some z from hz) r h' hr
      refine s_iconst (v := 0) (pc := 101) dX12_isSettled_101 (by decide) ?_
      exact s_zretB (b := false) (pc := 102) dX12_isSettled_102 rfl (fun _ _ q => q)
theorem pX12_isSettled_ok (hh : mo + 18 ≤ h.2.1) (s : RS) (a0 : Int32) (a1 : Int32) (a2 : Int32) : ∀ x, pX12_isSettled s a0 a1 a2 = some x → aMet l 1 yX12_isSettled cX12_isSettled 5 (some .boolean) [.ref mo, .int a0, .int a1, .int a2] (rH mo h s) (some (.int (b2i x))) (rH mo h s) := fun x hx => a_meth (ini := false) (y := yX12_isSettled) (by decide +kernel) (fun q => by cases q) (fun _ => Nat.le_of_ble_eq_true rfl) (pX12_isSettled_w hh s a0 a1 a2) x hx _ _ ⟨rfl, rfl⟩
end
section
variable {l : Launch} {n0 S0 : Nat} {mo : Nat} {h : aH}
abbrev MX12_quarrel : aM := (cX12_quarrel, RX12, 4, (some .boolean), false)
def pX12_quarrel (s : RS) (a0 : Int32) (a1 : Int32) (a2 : Int32) : Option Bool :=
  (pX12_hasIn a0 a1).bind fun x1 =>
  if x1 = true then
    (pX12_hasIn a0 a2).bind fun x2 =>
    if x2 = true then
      (pX12_wouldQuarrel s (0 : Int32) a1 a2).bind fun x3 =>
      if x3 = true then
        (pX12_isSettled s a0 a1 a2).bind fun x4 =>
        if x4 = true then
          some false
        else
          some true
      else
        some false
    else
      some false
  else
    some false
theorem pX12_quarrel_w (hh : mo + 18 ≤ h.2.1) (s : RS) (a0 : Int32) (a1 : Int32) (a2 : Int32) : aS l 3 MX12_quarrel n0 S0 (oΦ (fun (x : Bool) => (some (.int (b2i x)), rH mo h s))) 0 [(0, .ref mo), (1, .int a0), (2, .int a1), (3, .int a2)] [] (rH mo h s) (pX12_quarrel s a0 a1 a2) := by
  unfold pX12_quarrel
  refine s_iload_n (pc := 0) 1 dX12_quarrel_0 rfl ?_
  refine s_iload_n (pc := 1) 2 dX12_quarrel_1 rfl ?_
  refine s_callS (M := MX12_quarrel) (As := [.int a0, .int a1]) (st := []) (Ψ := fun (x : Bool) => (some (.int (b2i x)), rH mo h s)) cs_X12_302 (by decide) (pc := 2) dX12_quarrel_2 rfl (Nat.le_of_ble_eq_true rfl) (fun x hx => pX12_hasIn_ok a0 a1 x hx) rfl (fun x1 _ => ?_)
  refine s_if_eqB (tgt := 40) (pc := 5) dX12_quarrel_5 (by decide) (fun _ => ?_) (fun _ => ?_)
  · refine s_iload_n (pc := 8) 1 dX12_quarrel_8 rfl ?_
    refine s_iload_n (pc := 9) 3 dX12_quarrel_9 rfl ?_
    refine s_callS (M := MX12_quarrel) (As := [.int a0, .int a2]) (st := []) (Ψ := fun (x : Bool) => (some (.int (b2i x)), rH mo h s)) cs_X12_302 (by decide) (pc := 10) dX12_quarrel_10 rfl (Nat.le_of_ble_eq_true rfl) (fun x hx => pX12_hasIn_ok a0 a2 x hx) rfl (fun x2 _ => ?_)
    refine s_if_eqB (tgt := 40) (pc := 13) dX12_quarrel_13 (by decide) (fun _ => ?_) (fun _ => ?_)
    · refine s_aload_n (pc := 16) 0 dX12_quarrel_16 rfl ?_
      refine s_iconst (v := 0) (pc := 17) dX12_quarrel_17 (by decide) ?_
      refine s_iload_n (pc := 18) 2 dX12_quarrel_18 rfl ?_
      refine s_iload_n (pc := 19) 3 dX12_quarrel_19 rfl ?_
      refine s_callV (M := MX12_quarrel) (As := [.int 0, .int a1, .int a2]) (st := []) (Ψ := fun (x : Bool) => (some (.int (b2i x)), rH mo h s)) cv_X12_262 (by decide) (pc := 20) dX12_quarrel_20 r_0 (r_lt (k := 0) hh (by decide)) rfl (Nat.le_of_ble_eq_true rfl) (fun x hx => pX12_wouldQuarrel_ok hh s (0 : Int32) a1 a2 x hx) rfl (fun x3 _ => ?_)
      refine s_if_eqB (tgt := 40) (pc := 23) dX12_quarrel_23 (by decide) (fun _ => ?_) (fun _ => ?_)
      · refine s_aload_n (pc := 26) 0 dX12_quarrel_26 rfl ?_
        refine s_iload_n (pc := 27) 1 dX12_quarrel_27 rfl ?_
        refine s_iload_n (pc := 28) 2 dX12_quarrel_28 rfl ?_
        refine s_iload_n (pc := 29) 3 dX12_quarrel_29 rfl ?_
        refine s_callV (M := MX12_quarrel) (As := [.int a0, .int a1, .int a2]) (st := []) (Ψ := fun (x : Bool) => (some (.int (b2i x)), rH mo h s)) cv_X12_328 (by decide) (pc := 30) dX12_quarrel_30 r_0 (r_lt (k := 0) hh (by decide)) rfl (Nat.le_of_ble_eq_true rfl) (fun x hx => pX12_isSettled_ok hh s a0 a1 a2 x hx) rfl (fun x4 _ => ?_)
        refine s_if_neB (tgt := 40) (pc := 33) dX12_quarrel_33 (by decide) (fun _ => ?_) (fun _ => ?_)
        · refine s_iconst (v := 0) (pc := 40) dX12_quarrel_40 (by decide) ?_
          exact s_zretB (b := false) (pc := 41) dX12_quarrel_41 rfl (fun _ _ q => q)
        · refine s_iconst (v := 1) (pc := 36) dX12_quarrel_36 (by decide) ?_
          refine s_goto (tgt := 41) (pc := 37) dX12_quarrel_37 (by decide) ?_
          exact s_zretB (b := true) (pc := 41) dX12_quarrel_41 rfl (fun _ _ q => q)
      · refine s_iconst (v := 0) (pc := 40) dX12_quarrel_40 (by decide) ?_
        exact s_zretB (b := false) (pc := 41) dX12_quarrel_41 rfl (fun _ _ q => q)
    · refine s_iconst (v := 0) (pc := 40) dX12_quarrel_40 (by decide) ?_
      exact s_zretB (b := false) (pc := 41) dX12_quarrel_41 rfl (fun _ _ q => q)
  · refine s_iconst (v := 0) (pc := 40) dX12_quarrel_40 (by decide) ?_
    exact s_zretB (b := false) (pc := 41) dX12_quarrel_41 rfl (fun _ _ q => q)
theorem pX12_quarrel_ok (hh : mo + 18 ≤ h.2.1) (s : RS) (a0 : Int32) (a1 : Int32) (a2 : Int32) : ∀ x, pX12_quarrel s a0 a1 a2 = some x → aMet l 3 yX12_quarrel cX12_quarrel 4 (some .boolean) [.ref mo, .int a0, .int a1, .int a2] (rH mo h s) (some (.int (b2i x))) (rH mo h s) := fun x hx => a_meth (ini := false) (y := yX12_quarrel) (by decide +kernel) (fun q => by cases q) (fun _ => Nat.le_of_ble_eq_true rfl) (pX12_quarrel_w hh s a0 a1 a2) x hx _ _ ⟨rfl, rfl⟩
end
section
variable {l : Launch} {n0 S0 : Nat} {mo : Nat} {h : aH}
abbrev MX12_quarrelers : aM := (cX12_quarrelers, RX12, 5, (some .int), false)
def X12_quarrelers_x5 (l : Launch) (n0 S0 : Nat) (mo : Nat) (h : aH) (v1 : Int32) (v2 : Int32) (s : RS) : Int32 → Option Value → aH → Prop := fun (x : Int32) r h' => aEv l 4 MX12_quarrelers n0 S0 44 [(3, .int x)] [] (rH mo h s) r h'
def X12_quarrelers_j36 (v1 : Int32) (v2 : Int32) (v4 : Int32) (k0 : Int32) (k1 : Int32) (s : RS) : Option ((Int32 × Int32) ⊕ Int32) :=
  thn (k0 ||| k1) fun x2 =>
  thn (v4 + 1) fun x3 =>
  some (.inl (x2, x3))
theorem X12_quarrelers_j36_ok (hh : mo + 18 ≤ h.2.1) (v1 : Int32) (v2 : Int32) (v4 : Int32) (k0 : Int32) (k1 : Int32) (s : RS) : aS l 4 MX12_quarrelers n0 S0 (a_LΦ (X12_quarrelers_x5 l n0 S0 mo h v1 v2 s) l 4 MX12_quarrelers n0 S0 5 (fun (q : Int32 × Int32) => [(0, .ref mo), (1, .int v1), (2, .int v2), (3, .int q.1), (4, .int q.2)]) (fun _ => []) (fun (q : Int32 × Int32) => rH mo h s)) 36 [(0, .ref mo), (1, .int v1), (2, .int v2), (4, .int v4)] [.int k1, .int k0] (rH mo h s) (X12_quarrelers_j36 v1 v2 v4 k0 k1 s) := by
  unfold X12_quarrelers_j36
  refine s_ior (pc := 36) dX12_quarrelers_36 ?_
  refine s_istore_nT (lv' := fun x2 => [(3, .int x2), (0, .ref mo), (1, .int v1), (2, .int v2), (4, .int v4)]) (pc := 37) dX12_quarrelers_37 (by decide) (fun _ => rfl) (fun x2 => ?_)
  refine s_iincT (pc := 38) 4 (lv' := fun x3 => [(4, .int x3), (3, .int x2), (0, .ref mo), (1, .int v1), (2, .int v2)]) dX12_quarrelers_38 rfl rfl (by decide) (fun _ => rfl) (fun x3 => ?_)
  refine s_goto (tgt := 5) (pc := 41) dX12_quarrelers_41 (by decide) ?_
  refine s_sub [2, 3, 4, 1, 0] rfl ?_
  exact s_ev (fun _ _ q => q)
def X12_quarrelers_b5 (v1 : Int32) (v2 : Int32) (v3 : Int32) (v4 : Int32) (s : RS) : Option ((Int32 × Int32) ⊕ Int32) :=
  g_in (0 : Int32) 1800 (
  if (s.2.2.1 4 (0 : Int32).toNatClampNeg) ≤ v4 then
    some (.inr v3)
  else
    (pX12_quarrel s v1 v2 v4).bind fun x1 =>
    if x1 = true then
      X12_quarrelers_j36 v1 v2 v4 v3 ((1 : Int32) <<< (v4 &&& 31)) s
    else
      X12_quarrelers_j36 v1 v2 v4 v3 (0 : Int32) s)
theorem X12_quarrelers_b5_ok (hh : mo + 18 ≤ h.2.1) (v1 : Int32) (v2 : Int32) (v3 : Int32) (v4 : Int32) (s : RS) : aS l 4 MX12_quarrelers n0 S0 (a_LΦ (X12_quarrelers_x5 l n0 S0 mo h v1 v2 s) l 4 MX12_quarrelers n0 S0 5 (fun (q : Int32 × Int32) => [(0, .ref mo), (1, .int v1), (2, .int v2), (3, .int q.1), (4, .int q.2)]) (fun _ => []) (fun (q : Int32 × Int32) => rH mo h s)) 5 [(0, .ref mo), (1, .int v1), (2, .int v2), (3, .int v3), (4, .int v4)] [] (rH mo h s) (X12_quarrelers_b5 v1 v2 v3 v4 s) := by
  unfold X12_quarrelers_b5
  refine s_iload (pc := 5) 4 dX12_quarrelers_5 rfl ?_
  refine s_aload_n (pc := 7) 0 dX12_quarrelers_7 rfl ?_
  refine rg_35 hh (pc := 8) dX12_quarrelers_8 rfl ?_
  refine s_iconst (v := 0) (pc := 11) dX12_quarrelers_11 (by decide) ?_
  refine rl_4 hh (pc := 12) dX12_quarrelers_12 ?_
  refine s_icmp_ge (tgt := 44) (pc := 13) dX12_quarrelers_13 (by decide) (fun _ => ?_) (fun _ => ?_)
  · refine s_sub [3] rfl ?_
    exact s_ev (fun _ _ q => q)
  · refine s_iload_n (pc := 16) 3 dX12_quarrelers_16 rfl ?_
    refine s_aload_n (pc := 17) 0 dX12_quarrelers_17 rfl ?_
    refine s_iload_n (pc := 18) 1 dX12_quarrelers_18 rfl ?_
    refine s_iload_n (pc := 19) 2 dX12_quarrelers_19 rfl ?_
    refine s_iload (pc := 20) 4 dX12_quarrelers_20 rfl ?_
    refine s_callV (M := MX12_quarrelers) (As := [.int v1, .int v2, .int v4]) (st := [.int v3]) (Ψ := fun (x : Bool) => (some (.int (b2i x)), rH mo h s)) cv_X12_331 (by decide) (pc := 22) dX12_quarrelers_22 r_0 (r_lt (k := 0) hh (by decide)) rfl (Nat.le_of_ble_eq_true rfl) (fun x hx => pX12_quarrel_ok hh s v1 v2 v4 x hx) rfl (fun x1 _ => ?_)
    refine s_if_eqB (tgt := 35) (pc := 25) dX12_quarrelers_25 (by decide) (fun _ => ?_) (fun _ => ?_)
    · refine s_iconst (v := 1) (pc := 28) dX12_quarrelers_28 (by decide) ?_
      refine s_iload (pc := 29) 4 dX12_quarrelers_29 rfl ?_
      refine s_ishl (pc := 31) dX12_quarrelers_31 ?_
      refine s_goto (tgt := 36) (pc := 32) dX12_quarrelers_32 (by decide) ?_
      refine s_sub [0, 1, 2, 4] rfl ?_
      exact X12_quarrelers_j36_ok hh v1 v2 v4 v3 ((1 : Int32) <<< (v4 &&& 31)) s
    · refine s_iconst (v := 0) (pc := 35) dX12_quarrelers_35 (by decide) ?_
      refine s_sub [0, 1, 2, 4] rfl ?_
      exact X12_quarrelers_j36_ok hh v1 v2 v4 v3 (0 : Int32) s
def pX12_quarrelers (s : RS) (a0 : Int32) (a1 : Int32) : Option Int32 :=
  (a_loop (fun (q : Int32 × Int32) => X12_quarrelers_b5 a0 a1 q.1 q.2 s) FU ((0 : Int32), (0 : Int32))).bind fun (t4 : Int32) =>
    some t4
theorem pX12_quarrelers_w (hh : mo + 18 ≤ h.2.1) (s : RS) (a0 : Int32) (a1 : Int32) : aS l 4 MX12_quarrelers n0 S0 (oΦ (fun (x : Int32) => (some (.int x), rH mo h s))) 0 [(0, .ref mo), (1, .int a0), (2, .int a1)] [] (rH mo h s) (pX12_quarrelers s a0 a1) := by
  unfold pX12_quarrelers
  refine s_iconst (v := 0) (pc := 0) dX12_quarrelers_0 (by decide) ?_
  refine s_istore_n (lv' := [(3, .int 0), (0, .ref mo), (1, .int a0), (2, .int a1)]) (pc := 1) dX12_quarrelers_1 (by decide) rfl ?_
  refine s_iconst (v := 0) (pc := 2) dX12_quarrelers_2 (by decide) ?_
  refine s_istore (lv' := [(4, .int 0), (3, .int 0), (0, .ref mo), (1, .int a0), (2, .int a1)]) (pc := 3) dX12_quarrelers_3 (by decide) rfl ?_
  refine s_bind (Ψ := X12_quarrelers_x5 l n0 S0 mo h a0 a1 s) ?_ ?_
  · refine s_sub [2, 3, 4, 1, 0] rfl ?_
    exact s_loop (lvf := fun (q : Int32 × Int32) => [(0, .ref mo), (1, .int a0), (2, .int a1), (3, .int q.1), (4, .int q.2)]) (stf := fun _ => []) (hf := fun (q : Int32 × Int32) => rH mo h s) (fun q => X12_quarrelers_b5_ok hh a0 a1 q.1 q.2 s) FU ((0 : Int32), (0 : Int32))
  · intro t4 z r h' hz hr
    refine (?_ : aS l 4 MX12_quarrelers n0 S0 (oΦ (fun (x : Int32) => (some (.int x), rH mo h s))) 44 [(3, .int t4)] [] (rH mo h s) _) z hz r h' hr
    refine s_iload_n (pc := 44) 0 dX12_quarrelers_44 rfl ?_
    exact s_iret (pc := 45) dX12_quarrelers_45 rfl (fun _ _ q => q)
theorem pX12_quarrelers_ok (hh : mo + 18 ≤ h.2.1) (s : RS) (a0 : Int32) (a1 : Int32) : ∀ x, pX12_quarrelers s a0 a1 = some x → aMet l 4 yX12_quarrelers cX12_quarrelers 5 (some .int) [.ref mo, .int a0, .int a1] (rH mo h s) (some (.int x)) (rH mo h s) := fun x hx => a_meth (ini := false) (y := yX12_quarrelers) (by decide +kernel) (fun q => by cases q) (fun _ => Nat.le_of_ble_eq_true rfl) (pX12_quarrelers_w hh s a0 a1) x hx _ _ ⟨rfl, rfl⟩
end
section
variable {l : Launch} {n0 S0 : Nat} {mo : Nat} {h : aH}
abbrev MX12_quarrelsIn : aM := (cX12_quarrelsIn, RX12, 4, (some .int), false)
def X12_quarrelsIn_x4 (l : Launch) (n0 S0 : Nat) (mo : Nat) (h : aH) (v1 : Int32) (s : RS) : Int32 → Option Value → aH → Prop := fun (x : Int32) r h' => aEv l 5 MX12_quarrelsIn n0 S0 32 [(2, .int x)] [] (rH mo h s) r h'
def X12_quarrelsIn_b4 (v1 : Int32) (v2 : Int32) (v3 : Int32) (s : RS) : Option ((Int32 × Int32) ⊕ Int32) :=
  g_in (0 : Int32) 1800 (
  if (s.2.2.1 4 (0 : Int32).toNatClampNeg) ≤ v3 then
    some (.inr v2)
  else
    (pX12_quarrelers s v1 v3).bind fun x1 =>
    (pX12_bits x1).bind fun x2 =>
    thn (v2 + x2) fun x3 =>
    thn (v3 + 1) fun x4 =>
    some (.inl (x3, x4)))
theorem X12_quarrelsIn_b4_ok (hh : mo + 18 ≤ h.2.1) (v1 : Int32) (v2 : Int32) (v3 : Int32) (s : RS) : aS l 5 MX12_quarrelsIn n0 S0 (a_LΦ (X12_quarrelsIn_x4 l n0 S0 mo h v1 s) l 5 MX12_quarrelsIn n0 S0 4 (fun (q : Int32 × Int32) => [(0, .ref mo), (1, .int v1), (2, .int q.1), (3, .int q.2)]) (fun _ => []) (fun (q : Int32 × Int32) => rH mo h s)) 4 [(0, .ref mo), (1, .int v1), (2, .int v2), (3, .int v3)] [] (rH mo h s) (X12_quarrelsIn_b4 v1 v2 v3 s) := by
  unfold X12_quarrelsIn_b4
  refine s_iload_n (pc := 4) 3 dX12_quarrelsIn_4 rfl ?_
  refine s_aload_n (pc := 5) 0 dX12_quarrelsIn_5 rfl ?_
  refine rg_35 hh (pc := 6) dX12_quarrelsIn_6 rfl ?_
  refine s_iconst (v := 0) (pc := 9) dX12_quarrelsIn_9 (by decide) ?_
  refine rl_4 hh (pc := 10) dX12_quarrelsIn_10 ?_
  refine s_icmp_ge (tgt := 32) (pc := 11) dX12_quarrelsIn_11 (by decide) (fun _ => ?_) (fun _ => ?_)
  · refine s_sub [2] rfl ?_
    exact s_ev (fun _ _ q => q)
  · refine s_iload_n (pc := 14) 2 dX12_quarrelsIn_14 rfl ?_
    refine s_aload_n (pc := 15) 0 dX12_quarrelsIn_15 rfl ?_
    refine s_iload_n (pc := 16) 1 dX12_quarrelsIn_16 rfl ?_
    refine s_iload_n (pc := 17) 3 dX12_quarrelsIn_17 rfl ?_
    refine s_callV (M := MX12_quarrelsIn) (As := [.int v1, .int v3]) (st := [.int v2]) (Ψ := fun (x : Int32) => (some (.int x), rH mo h s)) cv_X12_334 (by decide) (pc := 18) dX12_quarrelsIn_18 r_0 (r_lt (k := 0) hh (by decide)) rfl (Nat.le_of_ble_eq_true rfl) (fun x hx => pX12_quarrelers_ok hh s v1 v3 x hx) rfl (fun x1 _ => ?_)
    refine s_callS (M := MX12_quarrelsIn) (As := [.int x1]) (st := [.int v2]) (Ψ := fun (x : Int32) => (some (.int x), rH mo h s)) cs_X12_325 (by decide) (pc := 21) dX12_quarrelsIn_21 rfl (Nat.le_of_ble_eq_true rfl) (fun x hx => pX12_bits_ok x1 x hx) rfl (fun x2 _ => ?_)
    refine s_iadd (pc := 24) dX12_quarrelsIn_24 ?_
    refine s_istore_nT (lv' := fun x3 => [(2, .int x3), (0, .ref mo), (1, .int v1), (3, .int v3)]) (pc := 25) dX12_quarrelsIn_25 (by decide) (fun _ => rfl) (fun x3 => ?_)
    refine s_iincT (pc := 26) 3 (lv' := fun x4 => [(3, .int x4), (2, .int x3), (0, .ref mo), (1, .int v1)]) dX12_quarrelsIn_26 rfl rfl (by decide) (fun _ => rfl) (fun x4 => ?_)
    refine s_goto (tgt := 4) (pc := 29) dX12_quarrelsIn_29 (by decide) ?_
    refine s_sub [2, 3, 1, 0] rfl ?_
    exact s_ev (fun _ _ q => q)
def pX12_quarrelsIn (s : RS) (a0 : Int32) : Option Int32 :=
  (a_loop (fun (q : Int32 × Int32) => X12_quarrelsIn_b4 a0 q.1 q.2 s) FU ((0 : Int32), (0 : Int32))).bind fun (t5 : Int32) =>
    some (t5 / (2 : Int32))
theorem pX12_quarrelsIn_w (hh : mo + 18 ≤ h.2.1) (s : RS) (a0 : Int32) : aS l 5 MX12_quarrelsIn n0 S0 (oΦ (fun (x : Int32) => (some (.int x), rH mo h s))) 0 [(0, .ref mo), (1, .int a0)] [] (rH mo h s) (pX12_quarrelsIn s a0) := by
  unfold pX12_quarrelsIn
  refine s_iconst (v := 0) (pc := 0) dX12_quarrelsIn_0 (by decide) ?_
  refine s_istore_n (lv' := [(2, .int 0), (0, .ref mo), (1, .int a0)]) (pc := 1) dX12_quarrelsIn_1 (by decide) rfl ?_
  refine s_iconst (v := 0) (pc := 2) dX12_quarrelsIn_2 (by decide) ?_
  refine s_istore_n (lv' := [(3, .int 0), (2, .int 0), (0, .ref mo), (1, .int a0)]) (pc := 3) dX12_quarrelsIn_3 (by decide) rfl ?_
  refine s_bind (Ψ := X12_quarrelsIn_x4 l n0 S0 mo h a0 s) ?_ ?_
  · refine s_sub [2, 3, 1, 0] rfl ?_
    exact s_loop (lvf := fun (q : Int32 × Int32) => [(0, .ref mo), (1, .int a0), (2, .int q.1), (3, .int q.2)]) (stf := fun _ => []) (hf := fun (q : Int32 × Int32) => rH mo h s) (fun q => X12_quarrelsIn_b4_ok hh a0 q.1 q.2 s) FU ((0 : Int32), (0 : Int32))
  · intro t5 z r h' hz hr
    refine (?_ : aS l 5 MX12_quarrelsIn n0 S0 (oΦ (fun (x : Int32) => (some (.int x), rH mo h s))) 32 [(2, .int t5)] [] (rH mo h s) _) z hz r h' hr
    refine s_iload_n (pc := 32) 0 dX12_quarrelsIn_32 rfl ?_
    refine s_iconst (v := 2) (pc := 33) dX12_quarrelsIn_33 (by decide) ?_
    refine s_idivC (pc := 34) dX12_quarrelsIn_34 (by decide) ?_
    exact s_iret (pc := 35) dX12_quarrelsIn_35 rfl (fun _ _ q => q)
theorem pX12_quarrelsIn_ok (hh : mo + 18 ≤ h.2.1) (s : RS) (a0 : Int32) : ∀ x, pX12_quarrelsIn s a0 = some x → aMet l 5 yX12_quarrelsIn cX12_quarrelsIn 4 (some .int) [.ref mo, .int a0] (rH mo h s) (some (.int x)) (rH mo h s) := fun x hx => a_meth (ini := false) (y := yX12_quarrelsIn) (by decide +kernel) (fun q => by cases q) (fun _ => Nat.le_of_ble_eq_true rfl) (pX12_quarrelsIn_w hh s a0) x hx _ _ ⟨rfl, rfl⟩
end
section
variable {l : Launch} {n0 S0 : Nat} {mo : Nat} {h : aH}
abbrev MX12_isThere : aM := (cX12_isThere, RX12, 4, (some .boolean), false)
def X12_isThere_x21 (l : Launch) (n0 S0 : Nat) (mo : Nat) (h : aH) (v1 : Int32) (v2 : Int32) (s : RS) : (Unit ⊕ Unit) → Option Value → aH → Prop := Sum.elim (fun (x : Unit) (r : Option Value) (h' : aH) => aEv l 5 MX12_isThere n0 S0 77 [] [] (rH mo h s) r h') (fun (x : Unit) (r : Option Value) (h' : aH) => aEv l 5 MX12_isThere n0 S0 85 [] [] (rH mo h s) r h')
def X12_isThere_j79 (v1 : Int32) (v2 : Int32) (v3 : Int32) (s : RS) : Option (Int32 ⊕ (Unit ⊕ Unit)) :=
  thn (v3 + 1) fun x4 =>
  some (.inl x4)
theorem X12_isThere_j79_ok (hh : mo + 18 ≤ h.2.1) (v1 : Int32) (v2 : Int32) (v3 : Int32) (s : RS) : aS l 5 MX12_isThere n0 S0 (a_LΦ (X12_isThere_x21 l n0 S0 mo h v1 v2 s) l 5 MX12_isThere n0 S0 21 (fun (q : Int32) => [(0, .ref mo), (1, .int v1), (2, .int v2), (3, .int q)]) (fun _ => []) (fun (q : Int32) => rH mo h s)) 79 [(0, .ref mo), (1, .int v1), (2, .int v2), (3, .int v3)] [] (rH mo h s) (X12_isThere_j79 v1 v2 v3 s) := by
  unfold X12_isThere_j79
  refine s_iincT (pc := 79) 3 (lv' := fun x4 => [(3, .int x4), (0, .ref mo), (1, .int v1), (2, .int v2)]) dX12_isThere_79 rfl rfl (by decide) (fun _ => rfl) (fun x4 => ?_)
  refine s_goto (tgt := 21) (pc := 82) dX12_isThere_82 (by decide) ?_
  refine s_sub [1, 2, 3, 0] rfl ?_
  exact s_ev (fun _ _ q => q)
def X12_isThere_b21 (v1 : Int32) (v2 : Int32) (v3 : Int32) (s : RS) : Option (Int32 ⊕ (Unit ⊕ Unit)) :=
  g_in (0 : Int32) 1800 (
  if (s.2.2.1 4 (0 : Int32).toNatClampNeg) ≤ v3 then
    some (.inr (.inr ()))
  else
    (pX12_hasIn v1 v3).bind fun x3 =>
    if x3 = true then
      (pX12_kind s (0 : Int32) v3).bind fun x5 =>
      if x5 = (1 : Int32) then
        (pX12_thingOf s (0 : Int32) v3).bind fun x6 =>
        if x6 = v2 then
          (pX12_isLeftOut s v1 v3).bind fun x7 =>
          if x7 = true then
            X12_isThere_j79 v1 v2 v3 s
          else
            (pX12_quarrelers s v1 v3).bind fun x8 =>
            if x8 = 0 then
              some (.inr (.inl ()))
            else
              X12_isThere_j79 v1 v2 v3 s
        else
          X12_isThere_j79 v1 v2 v3 s
      else
        X12_isThere_j79 v1 v2 v3 s
    else
      X12_isThere_j79 v1 v2 v3 s)
theorem X12_isThere_b21_ok (hh : mo + 18 ≤ h.2.1) (v1 : Int32) (v2 : Int32) (v3 : Int32) (s : RS) : aS l 5 MX12_isThere n0 S0 (a_LΦ (X12_isThere_x21 l n0 S0 mo h v1 v2 s) l 5 MX12_isThere n0 S0 21 (fun (q : Int32) => [(0, .ref mo), (1, .int v1), (2, .int v2), (3, .int q)]) (fun _ => []) (fun (q : Int32) => rH mo h s)) 21 [(0, .ref mo), (1, .int v1), (2, .int v2), (3, .int v3)] [] (rH mo h s) (X12_isThere_b21 v1 v2 v3 s) := by
  unfold X12_isThere_b21
  refine s_iload_n (pc := 21) 3 dX12_isThere_21 rfl ?_
  refine s_aload_n (pc := 22) 0 dX12_isThere_22 rfl ?_
  refine rg_35 hh (pc := 23) dX12_isThere_23 rfl ?_
  refine s_iconst (v := 0) (pc := 26) dX12_isThere_26 (by decide) ?_
  refine rl_4 hh (pc := 27) dX12_isThere_27 ?_
  refine s_icmp_ge (tgt := 85) (pc := 28) dX12_isThere_28 (by decide) (fun _ => ?_) (fun _ => ?_)
  · refine s_sub [] rfl ?_
    exact s_ev (fun _ _ q => q)
  · refine s_iload_n (pc := 31) 1 dX12_isThere_31 rfl ?_
    refine s_iload_n (pc := 32) 3 dX12_isThere_32 rfl ?_
    refine s_callS (M := MX12_isThere) (As := [.int v1, .int v3]) (st := []) (Ψ := fun (x : Bool) => (some (.int (b2i x)), rH mo h s)) cs_X12_302 (by decide) (pc := 33) dX12_isThere_33 rfl (Nat.le_of_ble_eq_true rfl) (fun x hx => pX12_hasIn_ok v1 v3 x hx) rfl (fun x3 _ => ?_)
    refine s_if_eqB (tgt := 79) (pc := 36) dX12_isThere_36 (by decide) (fun _ => ?_) (fun _ => ?_)
    · refine s_aload_n (pc := 39) 0 dX12_isThere_39 rfl ?_
      refine s_iconst (v := 0) (pc := 40) dX12_isThere_40 (by decide) ?_
      refine s_iload_n (pc := 41) 3 dX12_isThere_41 rfl ?_
      refine s_callV (M := MX12_isThere) (As := [.int 0, .int v3]) (st := []) (Ψ := fun (x : Int32) => (some (.int x), rH mo h s)) cv_X12_239 (by decide) (pc := 42) dX12_isThere_42 r_0 (r_lt (k := 0) hh (by decide)) rfl (Nat.le_of_ble_eq_true rfl) (fun x hx => pX12_kind_ok hh s (0 : Int32) v3 x hx) rfl (fun x5 _ => ?_)
      refine s_iconst (v := 1) (pc := 45) dX12_isThere_45 (by decide) ?_
      refine s_icmp_ne (tgt := 79) (pc := 46) dX12_isThere_46 (by decide) (fun _ => ?_) (fun _ => ?_)
      · refine s_aload_n (pc := 49) 0 dX12_isThere_49 rfl ?_
        refine s_iconst (v := 0) (pc := 50) dX12_isThere_50 (by decide) ?_
        refine s_iload_n (pc := 51) 3 dX12_isThere_51 rfl ?_
        refine s_callV (M := MX12_isThere) (As := [.int 0, .int v3]) (st := []) (Ψ := fun (x : Int32) => (some (.int x), rH mo h s)) cv_X12_246 (by decide) (pc := 52) dX12_isThere_52 r_0 (r_lt (k := 0) hh (by decide)) rfl (Nat.le_of_ble_eq_true rfl) (fun x hx => pX12_thingOf_ok hh s (0 : Int32) v3 x hx) rfl (fun x6 _ => ?_)
        refine s_iload_n (pc := 55) 2 dX12_isThere_55 rfl ?_
        refine s_icmp_ne (tgt := 79) (pc := 56) dX12_isThere_56 (by decide) (fun _ => ?_) (fun _ => ?_)
        · refine s_aload_n (pc := 59) 0 dX12_isThere_59 rfl ?_
          refine s_iload_n (pc := 60) 1 dX12_isThere_60 rfl ?_
          refine s_iload_n (pc := 61) 3 dX12_isThere_61 rfl ?_
          refine s_callV (M := MX12_isThere) (As := [.int v1, .int v3]) (st := []) (Ψ := fun (x : Bool) => (some (.int (b2i x)), rH mo h s)) cv_X12_337 (by decide) (pc := 62) dX12_isThere_62 r_0 (r_lt (k := 0) hh (by decide)) rfl (Nat.le_of_ble_eq_true rfl) (fun x hx => pX12_isLeftOut_ok hh s v1 v3 x hx) rfl (fun x7 _ => ?_)
          refine s_if_neB (tgt := 79) (pc := 65) dX12_isThere_65 (by decide) (fun _ => ?_) (fun _ => ?_)
          · exact X12_isThere_j79_ok hh v1 v2 v3 s
          · refine s_aload_n (pc := 68) 0 dX12_isThere_68 rfl ?_
            refine s_iload_n (pc := 69) 1 dX12_isThere_69 rfl ?_
            refine s_iload_n (pc := 70) 3 dX12_isThere_70 rfl ?_
            refine s_callV (M := MX12_isThere) (As := [.int v1, .int v3]) (st := []) (Ψ := fun (x : Int32) => (some (.int x), rH mo h s)) cv_X12_334 (by decide) (pc := 71) dX12_isThere_71 r_0 (r_lt (k := 0) hh (by decide)) rfl (Nat.le_of_ble_eq_true rfl) (fun x hx => pX12_quarrelers_ok hh s v1 v3 x hx) rfl (fun x8 _ => ?_)
            refine s_if_ne (tgt := 79) (pc := 74) dX12_isThere_74 (by decide) (fun _ => ?_) (fun _ => ?_)
            · refine s_sub [] rfl ?_
              exact s_ev (fun _ _ q => q)
            · exact X12_isThere_j79_ok hh v1 v2 v3 s
        · exact X12_isThere_j79_ok hh v1 v2 v3 s
      · exact X12_isThere_j79_ok hh v1 v2 v3 s
    · exact X12_isThere_j79_ok hh v1 v2 v3 s
def pX12_isThere (s : RS) (a0 : Int32) (a1 : Int32) : Option Bool :=
  (pX12_hasIn a0 a1).bind fun x1 =>
  if x1 = true then
    (pX12_kind s (0 : Int32) a1).bind fun x2 =>
    if x2 = 0 then
      (a_loop (fun (q : Int32) => X12_isThere_b21 a0 a1 q s) FU (0 : Int32)).bind (Sum.elim (fun (t9 : Unit) =>
          some false)
        (fun (t10 : Unit) =>
          some true))
    else
      some false
  else
    some false
theorem pX12_isThere_w (hh : mo + 18 ≤ h.2.1) (s : RS) (a0 : Int32) (a1 : Int32) : aS l 5 MX12_isThere n0 S0 (oΦ (fun (x : Bool) => (some (.int (b2i x)), rH mo h s))) 0 [(0, .ref mo), (1, .int a0), (2, .int a1)] [] (rH mo h s) (pX12_isThere s a0 a1) := by
  unfold pX12_isThere
  refine s_iload_n (pc := 0) 1 dX12_isThere_0 rfl ?_
  refine s_iload_n (pc := 1) 2 dX12_isThere_1 rfl ?_
  refine s_callS (M := MX12_isThere) (As := [.int a0, .int a1]) (st := []) (Ψ := fun (x : Bool) => (some (.int (b2i x)), rH mo h s)) cs_X12_302 (by decide) (pc := 2) dX12_isThere_2 rfl (Nat.le_of_ble_eq_true rfl) (fun x hx => pX12_hasIn_ok a0 a1 x hx) rfl (fun x1 _ => ?_)
  refine s_if_eqB (tgt := 17) (pc := 5) dX12_isThere_5 (by decide) (fun _ => ?_) (fun _ => ?_)
  · refine s_aload_n (pc := 8) 0 dX12_isThere_8 rfl ?_
    refine s_iconst (v := 0) (pc := 9) dX12_isThere_9 (by decide) ?_
    refine s_iload_n (pc := 10) 2 dX12_isThere_10 rfl ?_
    refine s_callV (M := MX12_isThere) (As := [.int 0, .int a1]) (st := []) (Ψ := fun (x : Int32) => (some (.int x), rH mo h s)) cv_X12_239 (by decide) (pc := 11) dX12_isThere_11 r_0 (r_lt (k := 0) hh (by decide)) rfl (Nat.le_of_ble_eq_true rfl) (fun x hx => pX12_kind_ok hh s (0 : Int32) a1 x hx) rfl (fun x2 _ => ?_)
    refine s_if_eq (tgt := 19) (pc := 14) dX12_isThere_14 (by decide) (fun _ => ?_) (fun _ => ?_)
    · refine s_iconst (v := 0) (pc := 19) dX12_isThere_19 (by decide) ?_
      refine s_istore_n (lv' := [(3, .int 0), (0, .ref mo), (1, .int a0), (2, .int a1)]) (pc := 20) dX12_isThere_20 (by decide) rfl ?_
      refine s_bind (Ψ := X12_isThere_x21 l n0 S0 mo h a0 a1 s) ?_ ?_
      · refine s_sub [1, 2, 3, 0] rfl ?_
        exact s_loop (lvf := fun (q : Int32) => [(0, .ref mo), (1, .int a0), (2, .int a1), (3, .int q)]) (stf := fun _ => []) (hf := fun (q : Int32) => rH mo h s) (fun q => X12_isThere_b21_ok hh a0 a1 q s) FU (0 : Int32)
      · intro x z r h' hz hr
        rcases x with t9 | t10
        · refine (?_ : aS l 5 MX12_isThere n0 S0 (oΦ (fun (x : Bool) => (some (.int (b2i x)), rH mo h s))) 77 [] [] (rH mo h s) _) z (show _ = some z from hz) r h' hr
          refine s_iconst (v := 0) (pc := 77) dX12_isThere_77 (by decide) ?_
          exact s_zretB (b := false) (pc := 78) dX12_isThere_78 rfl (fun _ _ q => q)
        · refine (?_ : aS l 5 MX12_isThere n0 S0 (oΦ (fun (x : Bool) => (some (.int (b2i x)), rH mo h s))) 85 [] [] (rH mo h s) _) z (show _ = some z from hz) r h' hr
          refine s_iconst (v := 1) (pc := 85) dX12_isThere_85 (by decide) ?_
          exact s_zretB (b := true) (pc := 86) dX12_isThere_86 rfl (fun _ _ q => q)
    · refine s_iconst (v := 0) (pc := 17) dX12_isThere_17 (by decide) ?_
      exact s_zretB (b := false) (pc := 18) dX12_isThere_18 rfl (fun _ _ q => q)
  · refine s_iconst (v := 0) (pc := 17) dX12_isThere_17 (by decide) ?_
    exact s_zretB (b := false) (pc := 18) dX12_isThere_18 rfl (fun _ _ q => q)
theorem pX12_isThere_ok (hh : mo + 18 ≤ h.2.1) (s : RS) (a0 : Int32) (a1 : Int32) : ∀ x, pX12_isThere s a0 a1 = some x → aMet l 5 yX12_isThere cX12_isThere 4 (some .boolean) [.ref mo, .int a0, .int a1] (rH mo h s) (some (.int (b2i x))) (rH mo h s) := fun x hx => a_meth (ini := false) (y := yX12_isThere) (by decide +kernel) (fun q => by cases q) (fun _ => Nat.le_of_ble_eq_true rfl) (pX12_isThere_w hh s a0 a1) x hx _ _ ⟨rfl, rfl⟩
end
section
variable {l : Launch} {n0 S0 : Nat} {mo : Nat} {h : aH}
abbrev MX12_allHang : aM := (cX12_allHang, RX12, 4, (some .boolean), false)
def X12_allHang_x2 (l : Launch) (n0 S0 : Nat) (mo : Nat) (h : aH) (v1 : Int32) (v2 : Int32) (s : RS) : (Unit ⊕ Unit) → Option Value → aH → Prop := Sum.elim (fun (x : Unit) (r : Option Value) (h' : aH) => aEv l 1 MX12_allHang n0 S0 33 [] [] (rH mo h s) r h') (fun (x : Unit) (r : Option Value) (h' : aH) => aEv l 1 MX12_allHang n0 S0 41 [] [] (rH mo h s) r h')
def X12_allHang_j35 (v1 : Int32) (v2 : Int32) (v3 : Int32) (s : RS) : Option (Int32 ⊕ (Unit ⊕ Unit)) :=
  thn (v3 + 1) fun x2 =>
  some (.inl x2)
theorem X12_allHang_j35_ok (hh : mo + 18 ≤ h.2.1) (v1 : Int32) (v2 : Int32) (v3 : Int32) (s : RS) : aS l 1 MX12_allHang n0 S0 (a_LΦ (X12_allHang_x2 l n0 S0 mo h v1 v2 s) l 1 MX12_allHang n0 S0 2 (fun (q : Int32) => [(0, .ref mo), (1, .int v1), (2, .int v2), (3, .int q)]) (fun _ => []) (fun (q : Int32) => rH mo h s)) 35 [(0, .ref mo), (1, .int v1), (2, .int v2), (3, .int v3)] [] (rH mo h s) (X12_allHang_j35 v1 v2 v3 s) := by
  unfold X12_allHang_j35
  refine s_iincT (pc := 35) 3 (lv' := fun x2 => [(3, .int x2), (0, .ref mo), (1, .int v1), (2, .int v2)]) dX12_allHang_35 rfl rfl (by decide) (fun _ => rfl) (fun x2 => ?_)
  refine s_goto (tgt := 2) (pc := 38) dX12_allHang_38 (by decide) ?_
  refine s_sub [1, 2, 3, 0] rfl ?_
  exact s_ev (fun _ _ q => q)
def X12_allHang_b2 (v1 : Int32) (v2 : Int32) (v3 : Int32) (s : RS) : Option (Int32 ⊕ (Unit ⊕ Unit)) :=
  g_in (0 : Int32) 1800 (
  if (s.2.2.1 4 (0 : Int32).toNatClampNeg) ≤ v3 then
    some (.inr (.inr ()))
  else
    (pX12_hasIn v1 v3).bind fun x1 =>
    if x1 = true then
      (pX12_hangsOn s (0 : Int32) v3).bind fun x3 =>
      (pX12_hasIn x3 v2).bind fun x4 =>
      if x4 = true then
        X12_allHang_j35 v1 v2 v3 s
      else
        some (.inr (.inl ()))
    else
      X12_allHang_j35 v1 v2 v3 s)
theorem X12_allHang_b2_ok (hh : mo + 18 ≤ h.2.1) (v1 : Int32) (v2 : Int32) (v3 : Int32) (s : RS) : aS l 1 MX12_allHang n0 S0 (a_LΦ (X12_allHang_x2 l n0 S0 mo h v1 v2 s) l 1 MX12_allHang n0 S0 2 (fun (q : Int32) => [(0, .ref mo), (1, .int v1), (2, .int v2), (3, .int q)]) (fun _ => []) (fun (q : Int32) => rH mo h s)) 2 [(0, .ref mo), (1, .int v1), (2, .int v2), (3, .int v3)] [] (rH mo h s) (X12_allHang_b2 v1 v2 v3 s) := by
  unfold X12_allHang_b2
  refine s_iload_n (pc := 2) 3 dX12_allHang_2 rfl ?_
  refine s_aload_n (pc := 3) 0 dX12_allHang_3 rfl ?_
  refine rg_35 hh (pc := 4) dX12_allHang_4 rfl ?_
  refine s_iconst (v := 0) (pc := 7) dX12_allHang_7 (by decide) ?_
  refine rl_4 hh (pc := 8) dX12_allHang_8 ?_
  refine s_icmp_ge (tgt := 41) (pc := 9) dX12_allHang_9 (by decide) (fun _ => ?_) (fun _ => ?_)
  · refine s_sub [] rfl ?_
    exact s_ev (fun _ _ q => q)
  · refine s_iload_n (pc := 12) 1 dX12_allHang_12 rfl ?_
    refine s_iload_n (pc := 13) 3 dX12_allHang_13 rfl ?_
    refine s_callS (M := MX12_allHang) (As := [.int v1, .int v3]) (st := []) (Ψ := fun (x : Bool) => (some (.int (b2i x)), rH mo h s)) cs_X12_302 (by decide) (pc := 14) dX12_allHang_14 rfl (Nat.le_of_ble_eq_true rfl) (fun x hx => pX12_hasIn_ok v1 v3 x hx) rfl (fun x1 _ => ?_)
    refine s_if_eqB (tgt := 35) (pc := 17) dX12_allHang_17 (by decide) (fun _ => ?_) (fun _ => ?_)
    · refine s_aload_n (pc := 20) 0 dX12_allHang_20 rfl ?_
      refine s_iconst (v := 0) (pc := 21) dX12_allHang_21 (by decide) ?_
      refine s_iload_n (pc := 22) 3 dX12_allHang_22 rfl ?_
      refine s_callV (M := MX12_allHang) (As := [.int 0, .int v3]) (st := []) (Ψ := fun (x : Int32) => (some (.int x), rH mo h s)) cv_X12_249 (by decide) (pc := 23) dX12_allHang_23 r_0 (r_lt (k := 0) hh (by decide)) rfl (Nat.le_of_ble_eq_true rfl) (fun x hx => pX12_hangsOn_ok hh s (0 : Int32) v3 x hx) rfl (fun x3 _ => ?_)
      refine s_iload_n (pc := 26) 2 dX12_allHang_26 rfl ?_
      refine s_callS (M := MX12_allHang) (As := [.int x3, .int v2]) (st := []) (Ψ := fun (x : Bool) => (some (.int (b2i x)), rH mo h s)) cs_X12_302 (by decide) (pc := 27) dX12_allHang_27 rfl (Nat.le_of_ble_eq_true rfl) (fun x hx => pX12_hasIn_ok x3 v2 x hx) rfl (fun x4 _ => ?_)
      refine s_if_neB (tgt := 35) (pc := 30) dX12_allHang_30 (by decide) (fun _ => ?_) (fun _ => ?_)
      · exact X12_allHang_j35_ok hh v1 v2 v3 s
      · refine s_sub [] rfl ?_
        exact s_ev (fun _ _ q => q)
    · exact X12_allHang_j35_ok hh v1 v2 v3 s
def pX12_allHang (s : RS) (a0 : Int32) (a1 : Int32) : Option Bool :=
  (a_loop (fun (q : Int32) => X12_allHang_b2 a0 a1 q s) FU (0 : Int32)).bind (Sum.elim (fun (t5 : Unit) =>
      some false)
    (fun (t6 : Unit) =>
      some true))
theorem pX12_allHang_w (hh : mo + 18 ≤ h.2.1) (s : RS) (a0 : Int32) (a1 : Int32) : aS l 1 MX12_allHang n0 S0 (oΦ (fun (x : Bool) => (some (.int (b2i x)), rH mo h s))) 0 [(0, .ref mo), (1, .int a0), (2, .int a1)] [] (rH mo h s) (pX12_allHang s a0 a1) := by
  unfold pX12_allHang
  refine s_iconst (v := 0) (pc := 0) dX12_allHang_0 (by decide) ?_
  refine s_istore_n (lv' := [(3, .int 0), (0, .ref mo), (1, .int a0), (2, .int a1)]) (pc := 1) dX12_allHang_1 (by decide) rfl ?_
  refine s_bind (Ψ := X12_allHang_x2 l n0 S0 mo h a0 a1 s) ?_ ?_
  · refine s_sub [1, 2, 3, 0] rfl ?_
    exact s_loop (lvf := fun (q : Int32) => [(0, .ref mo), (1, .int a0), (2, .int a1), (3, .int q)]) (stf := fun _ => []) (hf := fun (q : Int32) => rH mo h s) (fun q => X12_allHang_b2_ok hh a0 a1 q s) FU (0 : Int32)
  · intro x z r h' hz hr
    rcases x with t5 | t6
    · refine (?_ : aS l 1 MX12_allHang n0 S0 (oΦ (fun (x : Bool) => (some (.int (b2i x)), rH mo h s))) 33 [] [] (rH mo h s) _) z (show _ = some z from hz) r h' hr
      refine s_iconst (v := 0) (pc := 33) dX12_allHang_33 (by decide) ?_
      exact s_zretB (b := false) (pc := 34) dX12_allHang_34 rfl (fun _ _ q => q)
    · refine (?_ : aS l 1 MX12_allHang n0 S0 (oΦ (fun (x : Bool) => (some (.int (b2i x)), rH mo h s))) 41 [] [] (rH mo h s) _) z (show _ = some z from hz) r h' hr
      refine s_iconst (v := 1) (pc := 41) dX12_allHang_41 (by decide) ?_
      exact s_zretB (b := true) (pc := 42) dX12_allHang_42 rfl (fun _ _ q => q)
theorem pX12_allHang_ok (hh : mo + 18 ≤ h.2.1) (s : RS) (a0 : Int32) (a1 : Int32) : ∀ x, pX12_allHang s a0 a1 = some x → aMet l 1 yX12_allHang cX12_allHang 4 (some .boolean) [.ref mo, .int a0, .int a1] (rH mo h s) (some (.int (b2i x))) (rH mo h s) := fun x hx => a_meth (ini := false) (y := yX12_allHang) (by decide +kernel) (fun q => by cases q) (fun _ => Nat.le_of_ble_eq_true rfl) (pX12_allHang_w hh s a0 a1) x hx _ _ ⟨rfl, rfl⟩
end
section
variable {l : Launch} {n0 S0 : Nat} {mo : Nat} {h : aH}
abbrev MX12_toldBy : aM := (cX12_toldBy, RX12, 10, (some .int), false)
def X12_toldBy_x20 (l : Launch) (n0 S0 : Nat) (mo : Nat) (h : aH) (v1 : Int32) (v2 : Int32) (v3 : Int32) (v4 : Int32) (s : RS) : Int32 → Option Value → aH → Prop := fun (x : Int32) r h' => aEv l 2 MX12_toldBy n0 S0 87 [(0, .ref mo), (2, .int v2), (4, .int v4), (5, .int x)] [] (rH mo h s) r h'
def X12_toldBy_j81 (v1 : Int32) (v2 : Int32) (v3 : Int32) (v4 : Int32) (v5 : Int32) (v6 : Int32) (s : RS) : Option ((Int32 × Int32) ⊕ Int32) :=
  thn (v6 + 1) fun x2 =>
  some (.inl (v5, x2))
theorem X12_toldBy_j81_ok (hh : mo + 18 ≤ h.2.1) (v1 : Int32) (v2 : Int32) (v3 : Int32) (v4 : Int32) (v5 : Int32) (v6 : Int32) (s : RS) : aS l 2 MX12_toldBy n0 S0 (a_LΦ (X12_toldBy_x20 l n0 S0 mo h v1 v2 v3 v4 s) l 2 MX12_toldBy n0 S0 20 (fun (q : Int32 × Int32) => [(0, .ref mo), (1, .int v1), (2, .int v2), (3, .int v3), (4, .int v4), (5, .int q.1), (6, .int q.2)]) (fun _ => []) (fun (q : Int32 × Int32) => rH mo h s)) 81 [(0, .ref mo), (1, .int v1), (2, .int v2), (3, .int v3), (4, .int v4), (5, .int v5), (6, .int v6)] [] (rH mo h s) (X12_toldBy_j81 v1 v2 v3 v4 v5 v6 s) := by
  unfold X12_toldBy_j81
  refine s_iincT (pc := 81) 6 (lv' := fun x2 => [(6, .int x2), (0, .ref mo), (1, .int v1), (2, .int v2), (3, .int v3), (4, .int v4), (5, .int v5)]) dX12_toldBy_81 rfl rfl (by decide) (fun _ => rfl) (fun x2 => ?_)
  refine s_goto (tgt := 20) (pc := 84) dX12_toldBy_84 (by decide) ?_
  refine s_sub [1, 2, 3, 4, 5, 6, 0] rfl ?_
  exact s_ev (fun _ _ q => q)
def X12_toldBy_b20 (v1 : Int32) (v2 : Int32) (v3 : Int32) (v4 : Int32) (v5 : Int32) (v6 : Int32) (s : RS) : Option ((Int32 × Int32) ⊕ Int32) :=
  g_in (0 : Int32) 1800 (
  if (s.2.2.1 4 (0 : Int32).toNatClampNeg) ≤ v6 then
    some (.inr v5)
  else
    (pX12_hasIn v1 v6).bind fun x1 =>
    if x1 = true then
      (pX12_kind s (0 : Int32) v6).bind fun x3 =>
      if x3 = v3 then
        (pX12_thingOf s (0 : Int32) v6).bind fun x4 =>
        if x4 = v2 then
          (pX12_isLeftOut s v1 v6).bind fun x5 =>
          if x5 = true then
            X12_toldBy_j81 v1 v2 v3 v4 v5 v6 s
          else
            thn (v5 ||| ((1 : Int32) <<< (v6 &&& 31))) fun x6 =>
            X12_toldBy_j81 v1 v2 v3 v4 x6 v6 s
        else
          X12_toldBy_j81 v1 v2 v3 v4 v5 v6 s
      else
        X12_toldBy_j81 v1 v2 v3 v4 v5 v6 s
    else
      X12_toldBy_j81 v1 v2 v3 v4 v5 v6 s)
theorem X12_toldBy_b20_ok (hh : mo + 18 ≤ h.2.1) (v1 : Int32) (v2 : Int32) (v3 : Int32) (v4 : Int32) (v5 : Int32) (v6 : Int32) (s : RS) : aS l 2 MX12_toldBy n0 S0 (a_LΦ (X12_toldBy_x20 l n0 S0 mo h v1 v2 v3 v4 s) l 2 MX12_toldBy n0 S0 20 (fun (q : Int32 × Int32) => [(0, .ref mo), (1, .int v1), (2, .int v2), (3, .int v3), (4, .int v4), (5, .int q.1), (6, .int q.2)]) (fun _ => []) (fun (q : Int32 × Int32) => rH mo h s)) 20 [(0, .ref mo), (1, .int v1), (2, .int v2), (3, .int v3), (4, .int v4), (5, .int v5), (6, .int v6)] [] (rH mo h s) (X12_toldBy_b20 v1 v2 v3 v4 v5 v6 s) := by
  unfold X12_toldBy_b20
  refine s_iload (pc := 20) 6 dX12_toldBy_20 rfl ?_
  refine s_aload_n (pc := 22) 0 dX12_toldBy_22 rfl ?_
  refine rg_35 hh (pc := 23) dX12_toldBy_23 rfl ?_
  refine s_iconst (v := 0) (pc := 26) dX12_toldBy_26 (by decide) ?_
  refine rl_4 hh (pc := 27) dX12_toldBy_27 ?_
  refine s_icmp_ge (tgt := 87) (pc := 28) dX12_toldBy_28 (by decide) (fun _ => ?_) (fun _ => ?_)
  · refine s_sub [0, 2, 4, 5] rfl ?_
    exact s_ev (fun _ _ q => q)
  · refine s_iload_n (pc := 31) 1 dX12_toldBy_31 rfl ?_
    refine s_iload (pc := 32) 6 dX12_toldBy_32 rfl ?_
    refine s_callS (M := MX12_toldBy) (As := [.int v1, .int v6]) (st := []) (Ψ := fun (x : Bool) => (some (.int (b2i x)), rH mo h s)) cs_X12_302 (by decide) (pc := 34) dX12_toldBy_34 rfl (Nat.le_of_ble_eq_true rfl) (fun x hx => pX12_hasIn_ok v1 v6 x hx) rfl (fun x1 _ => ?_)
    refine s_if_eqB (tgt := 81) (pc := 37) dX12_toldBy_37 (by decide) (fun _ => ?_) (fun _ => ?_)
    · refine s_aload_n (pc := 40) 0 dX12_toldBy_40 rfl ?_
      refine s_iconst (v := 0) (pc := 41) dX12_toldBy_41 (by decide) ?_
      refine s_iload (pc := 42) 6 dX12_toldBy_42 rfl ?_
      refine s_callV (M := MX12_toldBy) (As := [.int 0, .int v6]) (st := []) (Ψ := fun (x : Int32) => (some (.int x), rH mo h s)) cv_X12_239 (by decide) (pc := 44) dX12_toldBy_44 r_0 (r_lt (k := 0) hh (by decide)) rfl (Nat.le_of_ble_eq_true rfl) (fun x hx => pX12_kind_ok hh s (0 : Int32) v6 x hx) rfl (fun x3 _ => ?_)
      refine s_iload_n (pc := 47) 3 dX12_toldBy_47 rfl ?_
      refine s_icmp_ne (tgt := 81) (pc := 48) dX12_toldBy_48 (by decide) (fun _ => ?_) (fun _ => ?_)
      · refine s_aload_n (pc := 51) 0 dX12_toldBy_51 rfl ?_
        refine s_iconst (v := 0) (pc := 52) dX12_toldBy_52 (by decide) ?_
        refine s_iload (pc := 53) 6 dX12_toldBy_53 rfl ?_
        refine s_callV (M := MX12_toldBy) (As := [.int 0, .int v6]) (st := []) (Ψ := fun (x : Int32) => (some (.int x), rH mo h s)) cv_X12_246 (by decide) (pc := 55) dX12_toldBy_55 r_0 (r_lt (k := 0) hh (by decide)) rfl (Nat.le_of_ble_eq_true rfl) (fun x hx => pX12_thingOf_ok hh s (0 : Int32) v6 x hx) rfl (fun x4 _ => ?_)
        refine s_iload_n (pc := 58) 2 dX12_toldBy_58 rfl ?_
        refine s_icmp_ne (tgt := 81) (pc := 59) dX12_toldBy_59 (by decide) (fun _ => ?_) (fun _ => ?_)
        · refine s_aload_n (pc := 62) 0 dX12_toldBy_62 rfl ?_
          refine s_iload_n (pc := 63) 1 dX12_toldBy_63 rfl ?_
          refine s_iload (pc := 64) 6 dX12_toldBy_64 rfl ?_
          refine s_callV (M := MX12_toldBy) (As := [.int v1, .int v6]) (st := []) (Ψ := fun (x : Bool) => (some (.int (b2i x)), rH mo h s)) cv_X12_337 (by decide) (pc := 66) dX12_toldBy_66 r_0 (r_lt (k := 0) hh (by decide)) rfl (Nat.le_of_ble_eq_true rfl) (fun x hx => pX12_isLeftOut_ok hh s v1 v6 x hx) rfl (fun x5 _ => ?_)
          refine s_if_neB (tgt := 81) (pc := 69) dX12_toldBy_69 (by decide) (fun _ => ?_) (fun _ => ?_)
          · exact X12_toldBy_j81_ok hh v1 v2 v3 v4 v5 v6 s
          · refine s_iload (pc := 72) 5 dX12_toldBy_72 rfl ?_
            refine s_iconst (v := 1) (pc := 74) dX12_toldBy_74 (by decide) ?_
            refine s_iload (pc := 75) 6 dX12_toldBy_75 rfl ?_
            refine s_ishl (pc := 77) dX12_toldBy_77 ?_
            refine s_ior (pc := 78) dX12_toldBy_78 ?_
            refine s_istoreT (lv' := fun x6 => [(5, .int x6), (0, .ref mo), (1, .int v1), (2, .int v2), (3, .int v3), (4, .int v4), (6, .int v6)]) (pc := 79) dX12_toldBy_79 (by decide) (fun _ => rfl) (fun x6 => ?_)
            refine s_sub [1, 2, 3, 4, 5, 0, 6] rfl ?_
            exact X12_toldBy_j81_ok hh v1 v2 v3 v4 x6 v6 s
        · exact X12_toldBy_j81_ok hh v1 v2 v3 v4 v5 v6 s
      · exact X12_toldBy_j81_ok hh v1 v2 v3 v4 v5 v6 s
    · exact X12_toldBy_j81_ok hh v1 v2 v3 v4 v5 v6 s
def X12_toldBy_x93 (l : Launch) (n0 S0 : Nat) (mo : Nat) (h : aH) (v2 : Int32) (v4 : Int32) (v5 : Int32) (s : RS) : Int32 → Option Value → aH → Prop := fun (x : Int32) r h' => aEv l 2 MX12_toldBy n0 S0 194 [(0, .ref mo), (2, .int v2), (4, .int v4), (5, .int v5), (6, .int x)] [] (rH mo h s) r h'
def X12_toldBy_x116 (l : Launch) (n0 S0 : Nat) (mo : Nat) (h : aH) (v2 : Int32) (v4 : Int32) (v5 : Int32) (v6 : Int32) (v7 : Int32) (s : RS) : Bool → Option Value → aH → Prop := fun (x : Bool) r h' => aEv l 2 MX12_toldBy n0 S0 170 [(0, .ref mo), (2, .int v2), (4, .int v4), (5, .int v5), (6, .int v6), (7, .int v7), (8, .int (b2i x))] [] (rH mo h s) r h'
def X12_toldBy_j162 (v2 : Int32) (v4 : Int32) (v5 : Int32) (v6 : Int32) (v7 : Int32) (v9 : Int32) (k0 : Bool) (s : RS) : Option ((Bool × Int32) ⊕ Bool) :=
  thn (v9 + 1) fun x9 =>
  some (.inl (k0, x9))
theorem X12_toldBy_j162_ok (hh : mo + 18 ≤ h.2.1) (v2 : Int32) (v4 : Int32) (v5 : Int32) (v6 : Int32) (v7 : Int32) (v9 : Int32) (k0 : Bool) (s : RS) : aS l 2 MX12_toldBy n0 S0 (a_LΦ (X12_toldBy_x116 l n0 S0 mo h v2 v4 v5 v6 v7 s) l 2 MX12_toldBy n0 S0 116 (fun (q : Bool × Int32) => [(0, .ref mo), (2, .int v2), (4, .int v4), (5, .int v5), (6, .int v6), (7, .int v7), (8, .int (b2i q.1)), (9, .int q.2)]) (fun _ => []) (fun (q : Bool × Int32) => rH mo h s)) 162 [(0, .ref mo), (2, .int v2), (4, .int v4), (5, .int v5), (6, .int v6), (7, .int v7), (9, .int v9)] [.int (b2i k0)] (rH mo h s) (X12_toldBy_j162 v2 v4 v5 v6 v7 v9 k0 s) := by
  unfold X12_toldBy_j162
  refine s_istore (lv' := [(8, .int (b2i k0)), (0, .ref mo), (2, .int v2), (4, .int v4), (5, .int v5), (6, .int v6), (7, .int v7), (9, .int v9)]) (pc := 162) dX12_toldBy_162 (by decide) rfl ?_
  refine s_iincT (pc := 164) 7 (lv' := fun x9 => [(9, .int x9), (8, .int (b2i k0)), (0, .ref mo), (2, .int v2), (4, .int v4), (5, .int v5), (6, .int v6), (7, .int v7)]) dX12_toldBy_164 rfl rfl (by decide) (fun _ => rfl) (fun x9 => ?_)
  refine s_goto (tgt := 116) (pc := 167) dX12_toldBy_167 (by decide) ?_
  refine s_sub [2, 3, 4, 5, 6, 7, 1, 0] rfl ?_
  exact s_ev (fun _ _ q => q)
def X12_toldBy_j161 (v2 : Int32) (v4 : Int32) (v5 : Int32) (v6 : Int32) (v7 : Int32) (v9 : Int32) (s : RS) : Option ((Bool × Int32) ⊕ Bool) :=
  X12_toldBy_j162 v2 v4 v5 v6 v7 v9 false s
theorem X12_toldBy_j161_ok (hh : mo + 18 ≤ h.2.1) (v2 : Int32) (v4 : Int32) (v5 : Int32) (v6 : Int32) (v7 : Int32) (v9 : Int32) (s : RS) : aS l 2 MX12_toldBy n0 S0 (a_LΦ (X12_toldBy_x116 l n0 S0 mo h v2 v4 v5 v6 v7 s) l 2 MX12_toldBy n0 S0 116 (fun (q : Bool × Int32) => [(0, .ref mo), (2, .int v2), (4, .int v4), (5, .int v5), (6, .int v6), (7, .int v7), (8, .int (b2i q.1)), (9, .int q.2)]) (fun _ => []) (fun (q : Bool × Int32) => rH mo h s)) 161 [(0, .ref mo), (2, .int v2), (4, .int v4), (5, .int v5), (6, .int v6), (7, .int v7), (9, .int v9)] [] (rH mo h s) (X12_toldBy_j161 v2 v4 v5 v6 v7 v9 s) := by
  unfold X12_toldBy_j161
  refine s_iconst (v := 0) (pc := 161) dX12_toldBy_161 (by decide) ?_
  exact X12_toldBy_j162_ok hh v2 v4 v5 v6 v7 v9 false s
def X12_toldBy_j157 (v2 : Int32) (v4 : Int32) (v5 : Int32) (v6 : Int32) (v7 : Int32) (v9 : Int32) (s : RS) : Option ((Bool × Int32) ⊕ Bool) :=
  X12_toldBy_j162 v2 v4 v5 v6 v7 v9 true s
theorem X12_toldBy_j157_ok (hh : mo + 18 ≤ h.2.1) (v2 : Int32) (v4 : Int32) (v5 : Int32) (v6 : Int32) (v7 : Int32) (v9 : Int32) (s : RS) : aS l 2 MX12_toldBy n0 S0 (a_LΦ (X12_toldBy_x116 l n0 S0 mo h v2 v4 v5 v6 v7 s) l 2 MX12_toldBy n0 S0 116 (fun (q : Bool × Int32) => [(0, .ref mo), (2, .int v2), (4, .int v4), (5, .int v5), (6, .int v6), (7, .int v7), (8, .int (b2i q.1)), (9, .int q.2)]) (fun _ => []) (fun (q : Bool × Int32) => rH mo h s)) 157 [(0, .ref mo), (2, .int v2), (4, .int v4), (5, .int v5), (6, .int v6), (7, .int v7), (9, .int v9)] [] (rH mo h s) (X12_toldBy_j157 v2 v4 v5 v6 v7 v9 s) := by
  unfold X12_toldBy_j157
  refine s_iconst (v := 1) (pc := 157) dX12_toldBy_157 (by decide) ?_
  refine s_goto (tgt := 162) (pc := 158) dX12_toldBy_158 (by decide) ?_
  exact X12_toldBy_j162_ok hh v2 v4 v5 v6 v7 v9 true s
def X12_toldBy_b116 (v2 : Int32) (v4 : Int32) (v5 : Int32) (v6 : Int32) (v7 : Int32) (v8 : Bool) (v9 : Int32) (s : RS) : Option ((Bool × Int32) ⊕ Bool) :=
  g_in (0 : Int32) 1800 (
  if (s.2.2.1 4 (0 : Int32).toNatClampNeg) ≤ v9 then
    some (.inr v8)
  else
    if v8 = true then
      (pX12_hasIn v5 v9).bind fun x10 =>
      if x10 = true then
        (pX12_hangsOn s (0 : Int32) v9).bind fun x11 =>
        (pX12_hasIn x11 v7).bind fun x12 =>
        if x12 = true then
          X12_toldBy_j161 v2 v4 v5 v6 v7 v9 s
        else
          X12_toldBy_j157 v2 v4 v5 v6 v7 v9 s
      else
        X12_toldBy_j157 v2 v4 v5 v6 v7 v9 s
    else
      X12_toldBy_j161 v2 v4 v5 v6 v7 v9 s)
theorem X12_toldBy_b116_ok (hh : mo + 18 ≤ h.2.1) (v2 : Int32) (v4 : Int32) (v5 : Int32) (v6 : Int32) (v7 : Int32) (v8 : Bool) (v9 : Int32) (s : RS) : aS l 2 MX12_toldBy n0 S0 (a_LΦ (X12_toldBy_x116 l n0 S0 mo h v2 v4 v5 v6 v7 s) l 2 MX12_toldBy n0 S0 116 (fun (q : Bool × Int32) => [(0, .ref mo), (2, .int v2), (4, .int v4), (5, .int v5), (6, .int v6), (7, .int v7), (8, .int (b2i q.1)), (9, .int q.2)]) (fun _ => []) (fun (q : Bool × Int32) => rH mo h s)) 116 [(0, .ref mo), (2, .int v2), (4, .int v4), (5, .int v5), (6, .int v6), (7, .int v7), (8, .int (b2i v8)), (9, .int v9)] [] (rH mo h s) (X12_toldBy_b116 v2 v4 v5 v6 v7 v8 v9 s) := by
  unfold X12_toldBy_b116
  refine s_iload (pc := 116) 7 dX12_toldBy_116 rfl ?_
  refine s_aload_n (pc := 118) 0 dX12_toldBy_118 rfl ?_
  refine rg_35 hh (pc := 119) dX12_toldBy_119 rfl ?_
  refine s_iconst (v := 0) (pc := 122) dX12_toldBy_122 (by decide) ?_
  refine rl_4 hh (pc := 123) dX12_toldBy_123 ?_
  refine s_icmp_ge (tgt := 170) (pc := 124) dX12_toldBy_124 (by decide) (fun _ => ?_) (fun _ => ?_)
  · refine s_sub [0, 1, 2, 3, 4, 5, 6] rfl ?_
    exact s_ev (fun _ _ q => q)
  · refine s_iload (pc := 127) 6 dX12_toldBy_127 rfl ?_
    refine s_if_eqB (tgt := 161) (pc := 129) dX12_toldBy_129 (by decide) (fun _ => ?_) (fun _ => ?_)
    · refine s_iload (pc := 132) 3 dX12_toldBy_132 rfl ?_
      refine s_iload (pc := 134) 7 dX12_toldBy_134 rfl ?_
      refine s_callS (M := MX12_toldBy) (As := [.int v5, .int v9]) (st := []) (Ψ := fun (x : Bool) => (some (.int (b2i x)), rH mo h s)) cs_X12_302 (by decide) (pc := 136) dX12_toldBy_136 rfl (Nat.le_of_ble_eq_true rfl) (fun x hx => pX12_hasIn_ok v5 v9 x hx) rfl (fun x10 _ => ?_)
      refine s_if_eqB (tgt := 157) (pc := 139) dX12_toldBy_139 (by decide) (fun _ => ?_) (fun _ => ?_)
      · refine s_aload_n (pc := 142) 0 dX12_toldBy_142 rfl ?_
        refine s_iconst (v := 0) (pc := 143) dX12_toldBy_143 (by decide) ?_
        refine s_iload (pc := 144) 7 dX12_toldBy_144 rfl ?_
        refine s_callV (M := MX12_toldBy) (As := [.int 0, .int v9]) (st := []) (Ψ := fun (x : Int32) => (some (.int x), rH mo h s)) cv_X12_249 (by decide) (pc := 146) dX12_toldBy_146 r_0 (r_lt (k := 0) hh (by decide)) rfl (Nat.le_of_ble_eq_true rfl) (fun x hx => pX12_hangsOn_ok hh s (0 : Int32) v9 x hx) rfl (fun x11 _ => ?_)
        refine s_iload (pc := 149) 5 dX12_toldBy_149 rfl ?_
        refine s_callS (M := MX12_toldBy) (As := [.int x11, .int v7]) (st := []) (Ψ := fun (x : Bool) => (some (.int (b2i x)), rH mo h s)) cs_X12_302 (by decide) (pc := 151) dX12_toldBy_151 rfl (Nat.le_of_ble_eq_true rfl) (fun x hx => pX12_hasIn_ok x11 v7 x hx) rfl (fun x12 _ => ?_)
        refine s_if_neB (tgt := 161) (pc := 154) dX12_toldBy_154 (by decide) (fun _ => ?_) (fun _ => ?_)
        · refine s_sub [0, 1, 2, 3, 4, 5, 7] rfl ?_
          exact X12_toldBy_j161_ok hh v2 v4 v5 v6 v7 v9 s
        · refine s_sub [0, 1, 2, 3, 4, 5, 7] rfl ?_
          exact X12_toldBy_j157_ok hh v2 v4 v5 v6 v7 v9 s
      · refine s_sub [0, 1, 2, 3, 4, 5, 7] rfl ?_
        exact X12_toldBy_j157_ok hh v2 v4 v5 v6 v7 v9 s
    · refine s_sub [0, 1, 2, 3, 4, 5, 7] rfl ?_
      exact X12_toldBy_j161_ok hh v2 v4 v5 v6 v7 v9 s
def X12_toldBy_j185 (v2 : Int32) (v4 : Int32) (v5 : Int32) (v7 : Int32) (k0 : Int32) (k1 : Int32) (s : RS) : Option ((Int32 × Int32) ⊕ Int32) :=
  thn (k0 ||| k1) fun x14 =>
  thn (v7 + 1) fun x15 =>
  some (.inl (x14, x15))
theorem X12_toldBy_j185_ok (hh : mo + 18 ≤ h.2.1) (v2 : Int32) (v4 : Int32) (v5 : Int32) (v7 : Int32) (k0 : Int32) (k1 : Int32) (s : RS) : aS l 2 MX12_toldBy n0 S0 (a_LΦ (X12_toldBy_x93 l n0 S0 mo h v2 v4 v5 s) l 2 MX12_toldBy n0 S0 93 (fun (q : Int32 × Int32) => [(0, .ref mo), (2, .int v2), (4, .int v4), (5, .int v5), (6, .int q.1), (7, .int q.2)]) (fun _ => []) (fun (q : Int32 × Int32) => rH mo h s)) 185 [(0, .ref mo), (2, .int v2), (4, .int v4), (5, .int v5), (7, .int v7)] [.int k1, .int k0] (rH mo h s) (X12_toldBy_j185 v2 v4 v5 v7 k0 k1 s) := by
  unfold X12_toldBy_j185
  refine s_ior (pc := 185) dX12_toldBy_185 ?_
  refine s_istoreT (lv' := fun x14 => [(6, .int x14), (0, .ref mo), (2, .int v2), (4, .int v4), (5, .int v5), (7, .int v7)]) (pc := 186) dX12_toldBy_186 (by decide) (fun _ => rfl) (fun x14 => ?_)
  refine s_iincT (pc := 188) 5 (lv' := fun x15 => [(7, .int x15), (6, .int x14), (0, .ref mo), (2, .int v2), (4, .int v4), (5, .int v5)]) dX12_toldBy_188 rfl rfl (by decide) (fun _ => rfl) (fun x15 => ?_)
  refine s_goto (tgt := 93) (pc := 191) dX12_toldBy_191 (by decide) ?_
  refine s_sub [2, 3, 4, 5, 1, 0] rfl ?_
  exact s_ev (fun _ _ q => q)
def X12_toldBy_b93 (v2 : Int32) (v4 : Int32) (v5 : Int32) (v6 : Int32) (v7 : Int32) (s : RS) : Option ((Int32 × Int32) ⊕ Int32) :=
  g_in (0 : Int32) 1800 (
  if (s.2.2.1 4 (0 : Int32).toNatClampNeg) ≤ v7 then
    some (.inr v6)
  else
    (pX12_hasIn v5 v7).bind fun x8 =>
    (a_loop (fun (q : Bool × Int32) => X12_toldBy_b116 v2 v4 v5 v6 v7 q.1 q.2 s) FU (x8, (0 : Int32))).bind fun (t13 : Bool) =>
      if t13 = true then
        X12_toldBy_j185 v2 v4 v5 v7 v6 ((1 : Int32) <<< (v7 &&& 31)) s
      else
        X12_toldBy_j185 v2 v4 v5 v7 v6 (0 : Int32) s)
theorem X12_toldBy_b93_ok (hh : mo + 18 ≤ h.2.1) (v2 : Int32) (v4 : Int32) (v5 : Int32) (v6 : Int32) (v7 : Int32) (s : RS) : aS l 2 MX12_toldBy n0 S0 (a_LΦ (X12_toldBy_x93 l n0 S0 mo h v2 v4 v5 s) l 2 MX12_toldBy n0 S0 93 (fun (q : Int32 × Int32) => [(0, .ref mo), (2, .int v2), (4, .int v4), (5, .int v5), (6, .int q.1), (7, .int q.2)]) (fun _ => []) (fun (q : Int32 × Int32) => rH mo h s)) 93 [(0, .ref mo), (2, .int v2), (4, .int v4), (5, .int v5), (6, .int v6), (7, .int v7)] [] (rH mo h s) (X12_toldBy_b93 v2 v4 v5 v6 v7 s) := by
  unfold X12_toldBy_b93
  refine s_iload (pc := 93) 5 dX12_toldBy_93 rfl ?_
  refine s_aload_n (pc := 95) 0 dX12_toldBy_95 rfl ?_
  refine rg_35 hh (pc := 96) dX12_toldBy_96 rfl ?_
  refine s_iconst (v := 0) (pc := 99) dX12_toldBy_99 (by decide) ?_
  refine rl_4 hh (pc := 100) dX12_toldBy_100 ?_
  refine s_icmp_ge (tgt := 194) (pc := 101) dX12_toldBy_101 (by decide) (fun _ => ?_) (fun _ => ?_)
  · refine s_sub [0, 1, 2, 3, 4] rfl ?_
    exact s_ev (fun _ _ q => q)
  · refine s_iload (pc := 104) 3 dX12_toldBy_104 rfl ?_
    refine s_iload (pc := 106) 5 dX12_toldBy_106 rfl ?_
    refine s_callS (M := MX12_toldBy) (As := [.int v5, .int v7]) (st := []) (Ψ := fun (x : Bool) => (some (.int (b2i x)), rH mo h s)) cs_X12_302 (by decide) (pc := 108) dX12_toldBy_108 rfl (Nat.le_of_ble_eq_true rfl) (fun x hx => pX12_hasIn_ok v5 v7 x hx) rfl (fun x8 _ => ?_)
    refine s_istore (lv' := [(8, .int (b2i x8)), (0, .ref mo), (2, .int v2), (4, .int v4), (5, .int v5), (6, .int v6), (7, .int v7)]) (pc := 111) dX12_toldBy_111 (by decide) rfl ?_
    refine s_iconst (v := 0) (pc := 113) dX12_toldBy_113 (by decide) ?_
    refine s_istore (lv' := [(9, .int 0), (8, .int (b2i x8)), (0, .ref mo), (2, .int v2), (4, .int v4), (5, .int v5), (6, .int v6), (7, .int v7)]) (pc := 114) dX12_toldBy_114 (by decide) rfl ?_
    refine s_bind (Ψ := X12_toldBy_x116 l n0 S0 mo h v2 v4 v5 v6 v7 s) ?_ ?_
    · refine s_sub [2, 3, 4, 5, 6, 7, 1, 0] rfl ?_
      exact s_loop (lvf := fun (q : Bool × Int32) => [(0, .ref mo), (2, .int v2), (4, .int v4), (5, .int v5), (6, .int v6), (7, .int v7), (8, .int (b2i q.1)), (9, .int q.2)]) (stf := fun _ => []) (hf := fun (q : Bool × Int32) => rH mo h s) (fun q => X12_toldBy_b116_ok hh v2 v4 v5 v6 v7 q.1 q.2 s) FU (x8, (0 : Int32))
    · intro t13 z r h' hz hr
      refine (?_ : aS l 2 MX12_toldBy n0 S0 (a_LΦ (X12_toldBy_x93 l n0 S0 mo h v2 v4 v5 s) l 2 MX12_toldBy n0 S0 93 (fun (q : Int32 × Int32) => [(0, .ref mo), (2, .int v2), (4, .int v4), (5, .int v5), (6, .int q.1), (7, .int q.2)]) (fun _ => []) (fun (q : Int32 × Int32) => rH mo h s)) 170 [(0, .ref mo), (2, .int v2), (4, .int v4), (5, .int v5), (6, .int v6), (7, .int v7), (8, .int (b2i t13))] [] (rH mo h s) _) z hz r h' hr
      refine s_iload (pc := 170) 4 dX12_toldBy_170 rfl ?_
      refine s_iload (pc := 172) 6 dX12_toldBy_172 rfl ?_
      refine s_if_eqB (tgt := 184) (pc := 174) dX12_toldBy_174 (by decide) (fun _ => ?_) (fun _ => ?_)
      · refine s_iconst (v := 1) (pc := 177) dX12_toldBy_177 (by decide) ?_
        refine s_iload (pc := 178) 5 dX12_toldBy_178 rfl ?_
        refine s_ishl (pc := 180) dX12_toldBy_180 ?_
        refine s_goto (tgt := 185) (pc := 181) dX12_toldBy_181 (by decide) ?_
        refine s_sub [0, 1, 2, 3, 5] rfl ?_
        exact X12_toldBy_j185_ok hh v2 v4 v5 v7 v6 ((1 : Int32) <<< (v7 &&& 31)) s
      · refine s_iconst (v := 0) (pc := 184) dX12_toldBy_184 (by decide) ?_
        refine s_sub [0, 1, 2, 3, 5] rfl ?_
        exact X12_toldBy_j185_ok hh v2 v4 v5 v7 v6 (0 : Int32) s
def X12_toldBy_x215 (l : Launch) (n0 S0 : Nat) (mo : Nat) (h : aH) (v2 : Int32) (v4 : Int32) (v5 : Int32) (v6 : Int32) (s : RS) : Int32 → Option Value → aH → Prop := fun (x : Int32) r h' => aEv l 2 MX12_toldBy n0 S0 284 [(0, .ref mo), (4, .int v4), (7, .int x)] [] (rH mo h s) r h'
def X12_toldBy_j278 (v2 : Int32) (v4 : Int32) (v5 : Int32) (v6 : Int32) (v7 : Int32) (v8 : Int32) (s : RS) : Option ((Int32 × Int32) ⊕ Int32) :=
  thn (v8 + 1) fun x20 =>
  some (.inl (v7, x20))
theorem X12_toldBy_j278_ok (hh : mo + 18 ≤ h.2.1) (v2 : Int32) (v4 : Int32) (v5 : Int32) (v6 : Int32) (v7 : Int32) (v8 : Int32) (s : RS) : aS l 2 MX12_toldBy n0 S0 (a_LΦ (X12_toldBy_x215 l n0 S0 mo h v2 v4 v5 v6 s) l 2 MX12_toldBy n0 S0 215 (fun (q : Int32 × Int32) => [(0, .ref mo), (2, .int v2), (4, .int v4), (5, .int v5), (6, .int v6), (7, .int q.1), (8, .int q.2)]) (fun _ => []) (fun (q : Int32 × Int32) => rH mo h s)) 278 [(0, .ref mo), (2, .int v2), (4, .int v4), (5, .int v5), (6, .int v6), (7, .int v7), (8, .int v8)] [] (rH mo h s) (X12_toldBy_j278 v2 v4 v5 v6 v7 v8 s) := by
  unfold X12_toldBy_j278
  refine s_iincT (pc := 278) 6 (lv' := fun x20 => [(8, .int x20), (0, .ref mo), (2, .int v2), (4, .int v4), (5, .int v5), (6, .int v6), (7, .int v7)]) dX12_toldBy_278 rfl rfl (by decide) (fun _ => rfl) (fun x20 => ?_)
  refine s_goto (tgt := 215) (pc := 281) dX12_toldBy_281 (by decide) ?_
  refine s_sub [1, 2, 3, 4, 5, 6, 0] rfl ?_
  exact s_ev (fun _ _ q => q)
def X12_toldBy_j274 (v2 : Int32) (v4 : Int32) (v5 : Int32) (v6 : Int32) (v8 : Int32) (s : RS) : Option ((Int32 × Int32) ⊕ Int32) :=
  X12_toldBy_j278 v2 v4 v5 v6 v8 v8 s
theorem X12_toldBy_j274_ok (hh : mo + 18 ≤ h.2.1) (v2 : Int32) (v4 : Int32) (v5 : Int32) (v6 : Int32) (v8 : Int32) (s : RS) : aS l 2 MX12_toldBy n0 S0 (a_LΦ (X12_toldBy_x215 l n0 S0 mo h v2 v4 v5 v6 s) l 2 MX12_toldBy n0 S0 215 (fun (q : Int32 × Int32) => [(0, .ref mo), (2, .int v2), (4, .int v4), (5, .int v5), (6, .int v6), (7, .int q.1), (8, .int q.2)]) (fun _ => []) (fun (q : Int32 × Int32) => rH mo h s)) 274 [(0, .ref mo), (2, .int v2), (4, .int v4), (5, .int v5), (6, .int v6), (8, .int v8)] [] (rH mo h s) (X12_toldBy_j274 v2 v4 v5 v6 v8 s) := by
  unfold X12_toldBy_j274
  refine s_iload (pc := 274) 5 dX12_toldBy_274 rfl ?_
  refine s_istore (lv' := [(7, .int v8), (0, .ref mo), (2, .int v2), (4, .int v4), (5, .int v5), (6, .int v6), (8, .int v8)]) (pc := 276) dX12_toldBy_276 (by decide) rfl ?_
  refine s_sub [1, 2, 3, 4, 5, 0, 6] rfl ?_
  exact X12_toldBy_j278_ok hh v2 v4 v5 v6 v8 v8 s
def X12_toldBy_j263 (v2 : Int32) (v4 : Int32) (v5 : Int32) (v6 : Int32) (v7 : Int32) (v8 : Int32) (s : RS) : Option ((Int32 × Int32) ⊕ Int32) :=
  (pX12_allHang s v6 v8).bind fun x19 =>
  if x19 = true then
    X12_toldBy_j274 v2 v4 v5 v6 v8 s
  else
    X12_toldBy_j278 v2 v4 v5 v6 v7 v8 s
theorem X12_toldBy_j263_ok (hh : mo + 18 ≤ h.2.1) (v2 : Int32) (v4 : Int32) (v5 : Int32) (v6 : Int32) (v7 : Int32) (v8 : Int32) (s : RS) : aS l 2 MX12_toldBy n0 S0 (a_LΦ (X12_toldBy_x215 l n0 S0 mo h v2 v4 v5 v6 s) l 2 MX12_toldBy n0 S0 215 (fun (q : Int32 × Int32) => [(0, .ref mo), (2, .int v2), (4, .int v4), (5, .int v5), (6, .int v6), (7, .int q.1), (8, .int q.2)]) (fun _ => []) (fun (q : Int32 × Int32) => rH mo h s)) 263 [(0, .ref mo), (2, .int v2), (4, .int v4), (5, .int v5), (6, .int v6), (7, .int v7), (8, .int v8)] [] (rH mo h s) (X12_toldBy_j263 v2 v4 v5 v6 v7 v8 s) := by
  unfold X12_toldBy_j263
  refine s_aload_n (pc := 263) 0 dX12_toldBy_263 rfl ?_
  refine s_iload (pc := 264) 4 dX12_toldBy_264 rfl ?_
  refine s_iload (pc := 266) 6 dX12_toldBy_266 rfl ?_
  refine s_callV (M := MX12_toldBy) (As := [.int v6, .int v8]) (st := []) (Ψ := fun (x : Bool) => (some (.int (b2i x)), rH mo h s)) cv_X12_340 (by decide) (pc := 268) dX12_toldBy_268 r_0 (r_lt (k := 0) hh (by decide)) rfl (Nat.le_of_ble_eq_true rfl) (fun x hx => pX12_allHang_ok hh s v6 v8 x hx) rfl (fun x19 _ => ?_)
  refine s_if_eqB (tgt := 278) (pc := 271) dX12_toldBy_271 (by decide) (fun _ => ?_) (fun _ => ?_)
  · refine s_sub [0, 1, 2, 3, 4, 6] rfl ?_
    exact X12_toldBy_j274_ok hh v2 v4 v5 v6 v8 s
  · exact X12_toldBy_j278_ok hh v2 v4 v5 v6 v7 v8 s
def X12_toldBy_b215 (v2 : Int32) (v4 : Int32) (v5 : Int32) (v6 : Int32) (v7 : Int32) (v8 : Int32) (s : RS) : Option ((Int32 × Int32) ⊕ Int32) :=
  g_in (0 : Int32) 1800 (
  if (s.2.2.1 4 (0 : Int32).toNatClampNeg) ≤ v8 then
    some (.inr v7)
  else
    (pX12_bits v6).bind fun x17 =>
    if x17 = (1 : Int32) then
      if v6 = ((1 : Int32) <<< (v8 &&& 31)) then
        X12_toldBy_j274 v2 v4 v5 v6 v8 s
      else
        X12_toldBy_j278 v2 v4 v5 v6 v7 v8 s
    else
      (pX12_hasIn v5 v8).bind fun x18 =>
      if x18 = true then
        X12_toldBy_j263 v2 v4 v5 v6 v7 v8 s
      else
        if v8 = v2 then
          X12_toldBy_j263 v2 v4 v5 v6 v7 v8 s
        else
          X12_toldBy_j278 v2 v4 v5 v6 v7 v8 s)
theorem X12_toldBy_b215_ok (hh : mo + 18 ≤ h.2.1) (v2 : Int32) (v4 : Int32) (v5 : Int32) (v6 : Int32) (v7 : Int32) (v8 : Int32) (s : RS) : aS l 2 MX12_toldBy n0 S0 (a_LΦ (X12_toldBy_x215 l n0 S0 mo h v2 v4 v5 v6 s) l 2 MX12_toldBy n0 S0 215 (fun (q : Int32 × Int32) => [(0, .ref mo), (2, .int v2), (4, .int v4), (5, .int v5), (6, .int v6), (7, .int q.1), (8, .int q.2)]) (fun _ => []) (fun (q : Int32 × Int32) => rH mo h s)) 215 [(0, .ref mo), (2, .int v2), (4, .int v4), (5, .int v5), (6, .int v6), (7, .int v7), (8, .int v8)] [] (rH mo h s) (X12_toldBy_b215 v2 v4 v5 v6 v7 v8 s) := by
  unfold X12_toldBy_b215
  refine s_iload (pc := 215) 6 dX12_toldBy_215 rfl ?_
  refine s_aload_n (pc := 217) 0 dX12_toldBy_217 rfl ?_
  refine rg_35 hh (pc := 218) dX12_toldBy_218 rfl ?_
  refine s_iconst (v := 0) (pc := 221) dX12_toldBy_221 (by decide) ?_
  refine rl_4 hh (pc := 222) dX12_toldBy_222 ?_
  refine s_icmp_ge (tgt := 284) (pc := 223) dX12_toldBy_223 (by decide) (fun _ => ?_) (fun _ => ?_)
  · refine s_sub [0, 2, 5] rfl ?_
    exact s_ev (fun _ _ q => q)
  · refine s_iload (pc := 226) 4 dX12_toldBy_226 rfl ?_
    refine s_callS (M := MX12_toldBy) (As := [.int v6]) (st := []) (Ψ := fun (x : Int32) => (some (.int x), rH mo h s)) cs_X12_325 (by decide) (pc := 228) dX12_toldBy_228 rfl (Nat.le_of_ble_eq_true rfl) (fun x hx => pX12_bits_ok v6 x hx) rfl (fun x17 _ => ?_)
    refine s_iconst (v := 1) (pc := 231) dX12_toldBy_231 (by decide) ?_
    refine s_icmp_ne (tgt := 247) (pc := 232) dX12_toldBy_232 (by decide) (fun _ => ?_) (fun _ => ?_)
    · refine s_iload (pc := 235) 4 dX12_toldBy_235 rfl ?_
      refine s_iconst (v := 1) (pc := 237) dX12_toldBy_237 (by decide) ?_
      refine s_iload (pc := 238) 6 dX12_toldBy_238 rfl ?_
      refine s_ishl (pc := 240) dX12_toldBy_240 ?_
      refine s_icmp_ne (tgt := 278) (pc := 241) dX12_toldBy_241 (by decide) (fun _ => ?_) (fun _ => ?_)
      · refine s_goto (tgt := 274) (pc := 244) dX12_toldBy_244 (by decide) ?_
        refine s_sub [0, 1, 2, 3, 4, 6] rfl ?_
        exact X12_toldBy_j274_ok hh v2 v4 v5 v6 v8 s
      · exact X12_toldBy_j278_ok hh v2 v4 v5 v6 v7 v8 s
    · refine s_iload (pc := 247) 3 dX12_toldBy_247 rfl ?_
      refine s_iload (pc := 249) 6 dX12_toldBy_249 rfl ?_
      refine s_callS (M := MX12_toldBy) (As := [.int v5, .int v8]) (st := []) (Ψ := fun (x : Bool) => (some (.int (b2i x)), rH mo h s)) cs_X12_302 (by decide) (pc := 251) dX12_toldBy_251 rfl (Nat.le_of_ble_eq_true rfl) (fun x hx => pX12_hasIn_ok v5 v8 x hx) rfl (fun x18 _ => ?_)
      refine s_if_neB (tgt := 263) (pc := 254) dX12_toldBy_254 (by decide) (fun _ => ?_) (fun _ => ?_)
      · exact X12_toldBy_j263_ok hh v2 v4 v5 v6 v7 v8 s
      · refine s_iload (pc := 257) 6 dX12_toldBy_257 rfl ?_
        refine s_iload_n (pc := 259) 1 dX12_toldBy_259 rfl ?_
        refine s_icmp_ne (tgt := 278) (pc := 260) dX12_toldBy_260 (by decide) (fun _ => ?_) (fun _ => ?_)
        · exact X12_toldBy_j263_ok hh v2 v4 v5 v6 v7 v8 s
        · exact X12_toldBy_j278_ok hh v2 v4 v5 v6 v7 v8 s
def X12_toldBy_j12 (v1 : Int32) (v2 : Int32) (v3 : Int32) (k0 : Int32) (s : RS) : Option Int32 :=
  (a_loop (fun (q : Int32 × Int32) => X12_toldBy_b20 v1 v2 v3 k0 q.1 q.2 s) FU ((0 : Int32), (0 : Int32))).bind fun (t7 : Int32) =>
    (a_loop (fun (q : Int32 × Int32) => X12_toldBy_b93 v2 k0 t7 q.1 q.2 s) FU ((0 : Int32), (0 : Int32))).bind fun (t16 : Int32) =>
      if t16 = 0 then
        g_in (k0 + v2) 1800 (
        some (s.2.2.1 4 (k0 + v2).toNatClampNeg))
      else
        (a_loop (fun (q : Int32 × Int32) => X12_toldBy_b215 v2 k0 t7 t16 q.1 q.2 s) FU ((-1 : Int32), (0 : Int32))).bind fun (t21 : Int32) =>
          g_in (k0 + t21) 1800 (
          some (s.2.2.1 4 (k0 + t21).toNatClampNeg))
theorem X12_toldBy_j12_ok (hh : mo + 18 ≤ h.2.1) (v1 : Int32) (v2 : Int32) (v3 : Int32) (k0 : Int32) (s : RS) : aS l 2 MX12_toldBy n0 S0 (oΦ (fun (x : Int32) => (some (.int x), rH mo h s))) 12 [(0, .ref mo), (1, .int v1), (2, .int v2), (3, .int v3)] [.int k0] (rH mo h s) (X12_toldBy_j12 v1 v2 v3 k0 s) := by
  unfold X12_toldBy_j12
  refine s_istore (lv' := [(4, .int k0), (0, .ref mo), (1, .int v1), (2, .int v2), (3, .int v3)]) (pc := 12) dX12_toldBy_12 (by decide) rfl ?_
  refine s_iconst (v := 0) (pc := 14) dX12_toldBy_14 (by decide) ?_
  refine s_istore (lv' := [(5, .int 0), (4, .int k0), (0, .ref mo), (1, .int v1), (2, .int v2), (3, .int v3)]) (pc := 15) dX12_toldBy_15 (by decide) rfl ?_
  refine s_iconst (v := 0) (pc := 17) dX12_toldBy_17 (by decide) ?_
  refine s_istore (lv' := [(6, .int 0), (5, .int 0), (4, .int k0), (0, .ref mo), (1, .int v1), (2, .int v2), (3, .int v3)]) (pc := 18) dX12_toldBy_18 (by decide) rfl ?_
  refine s_bind (Ψ := X12_toldBy_x20 l n0 S0 mo h v1 v2 v3 k0 s) ?_ ?_
  · refine s_sub [3, 4, 5, 6, 2, 1, 0] rfl ?_
    exact s_loop (lvf := fun (q : Int32 × Int32) => [(0, .ref mo), (1, .int v1), (2, .int v2), (3, .int v3), (4, .int k0), (5, .int q.1), (6, .int q.2)]) (stf := fun _ => []) (hf := fun (q : Int32 × Int32) => rH mo h s) (fun q => X12_toldBy_b20_ok hh v1 v2 v3 k0 q.1 q.2 s) FU ((0 : Int32), (0 : Int32))
  · intro t7 z r h' hz hr
    refine (?_ : aS l 2 MX12_toldBy n0 S0 (oΦ (fun (x : Int32) => (some (.int x), rH mo h s))) 87 [(0, .ref mo), (2, .int v2), (4, .int k0), (5, .int t7)] [] (rH mo h s) _) z hz r h' hr
    refine s_iconst (v := 0) (pc := 87) dX12_toldBy_87 (by decide) ?_
    refine s_istore (lv' := [(6, .int 0), (0, .ref mo), (2, .int v2), (4, .int k0), (5, .int t7)]) (pc := 88) dX12_toldBy_88 (by decide) rfl ?_
    refine s_iconst (v := 0) (pc := 90) dX12_toldBy_90 (by decide) ?_
    refine s_istore (lv' := [(7, .int 0), (6, .int 0), (0, .ref mo), (2, .int v2), (4, .int k0), (5, .int t7)]) (pc := 91) dX12_toldBy_91 (by decide) rfl ?_
    refine s_bind (Ψ := X12_toldBy_x93 l n0 S0 mo h v2 k0 t7 s) ?_ ?_
    · refine s_sub [2, 3, 4, 5, 1, 0] rfl ?_
      exact s_loop (lvf := fun (q : Int32 × Int32) => [(0, .ref mo), (2, .int v2), (4, .int k0), (5, .int t7), (6, .int q.1), (7, .int q.2)]) (stf := fun _ => []) (hf := fun (q : Int32 × Int32) => rH mo h s) (fun q => X12_toldBy_b93_ok hh v2 k0 t7 q.1 q.2 s) FU ((0 : Int32), (0 : Int32))
    · intro t16 z r h' hz hr
      refine (?_ : aS l 2 MX12_toldBy n0 S0 (oΦ (fun (x : Int32) => (some (.int x), rH mo h s))) 194 [(0, .ref mo), (2, .int v2), (4, .int k0), (5, .int t7), (6, .int t16)] [] (rH mo h s) _) z hz r h' hr
      refine s_iload (pc := 194) 4 dX12_toldBy_194 rfl ?_
      refine s_if_ne (tgt := 209) (pc := 196) dX12_toldBy_196 (by decide) (fun _ => ?_) (fun _ => ?_)
      · refine s_aload_n (pc := 199) 0 dX12_toldBy_199 rfl ?_
        refine rg_35 hh (pc := 200) dX12_toldBy_200 rfl ?_
        refine s_iload (pc := 203) 2 dX12_toldBy_203 rfl ?_
        refine s_iload_n (pc := 205) 1 dX12_toldBy_205 rfl ?_
        refine s_iadd (pc := 206) dX12_toldBy_206 ?_
        refine rl_4 hh (pc := 207) dX12_toldBy_207 ?_
        exact s_iret (pc := 208) dX12_toldBy_208 rfl (fun _ _ q => q)
      · refine s_iconst (v := (-1)) (pc := 209) dX12_toldBy_209 (by decide) ?_
        refine s_istore (lv' := [(7, .int (-1)), (0, .ref mo), (2, .int v2), (4, .int k0), (5, .int t7), (6, .int t16)]) (pc := 210) dX12_toldBy_210 (by decide) rfl ?_
        refine s_iconst (v := 0) (pc := 212) dX12_toldBy_212 (by decide) ?_
        refine s_istore (lv' := [(8, .int 0), (7, .int (-1)), (0, .ref mo), (2, .int v2), (4, .int k0), (5, .int t7), (6, .int t16)]) (pc := 213) dX12_toldBy_213 (by decide) rfl ?_
        refine s_bind (Ψ := X12_toldBy_x215 l n0 S0 mo h v2 k0 t7 t16 s) ?_ ?_
        · refine s_sub [2, 3, 4, 5, 6, 1, 0] rfl ?_
          exact s_loop (lvf := fun (q : Int32 × Int32) => [(0, .ref mo), (2, .int v2), (4, .int k0), (5, .int t7), (6, .int t16), (7, .int q.1), (8, .int q.2)]) (stf := fun _ => []) (hf := fun (q : Int32 × Int32) => rH mo h s) (fun q => X12_toldBy_b215_ok hh v2 k0 t7 t16 q.1 q.2 s) FU ((-1 : Int32), (0 : Int32))
        · intro t21 z r h' hz hr
          refine (?_ : aS l 2 MX12_toldBy n0 S0 (oΦ (fun (x : Int32) => (some (.int x), rH mo h s))) 284 [(0, .ref mo), (4, .int k0), (7, .int t21)] [] (rH mo h s) _) z hz r h' hr
          refine s_aload_n (pc := 284) 0 dX12_toldBy_284 rfl ?_
          refine rg_35 hh (pc := 285) dX12_toldBy_285 rfl ?_
          refine s_iload (pc := 288) 1 dX12_toldBy_288 rfl ?_
          refine s_iload (pc := 290) 2 dX12_toldBy_290 rfl ?_
          refine s_iadd (pc := 292) dX12_toldBy_292 ?_
          refine rl_4 hh (pc := 293) dX12_toldBy_293 ?_
          exact s_iret (pc := 294) dX12_toldBy_294 rfl (fun _ _ q => q)
def pX12_toldBy (s : RS) (a0 : Int32) (a1 : Int32) (a2 : Int32) : Option Int32 :=
  if a2 = (2 : Int32) then
    X12_toldBy_j12 a0 a1 a2 (34 : Int32) s
  else
    X12_toldBy_j12 a0 a1 a2 (18 : Int32) s
theorem pX12_toldBy_w (hh : mo + 18 ≤ h.2.1) (s : RS) (a0 : Int32) (a1 : Int32) (a2 : Int32) : aS l 2 MX12_toldBy n0 S0 (oΦ (fun (x : Int32) => (some (.int x), rH mo h s))) 0 [(0, .ref mo), (1, .int a0), (2, .int a1), (3, .int a2)] [] (rH mo h s) (pX12_toldBy s a0 a1 a2) := by
  unfold pX12_toldBy
  refine s_iload_n (pc := 0) 3 dX12_toldBy_0 rfl ?_
  refine s_iconst (v := 2) (pc := 1) dX12_toldBy_1 (by decide) ?_
  refine s_icmp_ne (tgt := 10) (pc := 2) dX12_toldBy_2 (by decide) (fun _ => ?_) (fun _ => ?_)
  · refine s_bipush (v := 34) (pc := 5) dX12_toldBy_5 (by decide) ?_
    refine s_goto (tgt := 12) (pc := 7) dX12_toldBy_7 (by decide) ?_
    exact X12_toldBy_j12_ok hh a0 a1 a2 (34 : Int32) s
  · refine s_bipush (v := 18) (pc := 10) dX12_toldBy_10 (by decide) ?_
    exact X12_toldBy_j12_ok hh a0 a1 a2 (18 : Int32) s
theorem pX12_toldBy_ok (hh : mo + 18 ≤ h.2.1) (s : RS) (a0 : Int32) (a1 : Int32) (a2 : Int32) : ∀ x, pX12_toldBy s a0 a1 a2 = some x → aMet l 2 yX12_toldBy cX12_toldBy 10 (some .int) [.ref mo, .int a0, .int a1, .int a2] (rH mo h s) (some (.int x)) (rH mo h s) := fun x hx => a_meth (ini := false) (y := yX12_toldBy) (by decide +kernel) (fun q => by cases q) (fun _ => Nat.le_of_ble_eq_true rfl) (pX12_toldBy_w hh s a0 a1 a2) x hx _ _ ⟨rfl, rfl⟩
end
section
variable {l : Launch} {n0 S0 : Nat} {mo : Nat} {h : aH}
abbrev MX12_listOf : aM := (cX12_listOf, RX12, 7, (some .int), false)
def X12_listOf_7_x5 (l : Launch) (n0 S0 : Nat) (mo : Nat) (h : aH) (v1 : Int32) : (Int32 × RS) → Option Value → aH → Prop := fun (x : Int32 × RS) r h' => aEv l 6 MX12_listOf n0 S0 95 [(3, .int x.1)] [] (rH mo h x.2) r h'
def X12_listOf_7_x42 (l : Launch) (n0 S0 : Nat) (mo : Nat) (h : aH) (v1 : Int32) (v3 : Int32) (v4 : Int32) (v5 : Int32) : (Int32 × RS) → Option Value → aH → Prop := fun (x : Int32 × RS) r h' => aEv l 6 MX12_listOf n0 S0 80 [(0, .ref mo), (1, .int v1), (2, .ref (mo + 7)), (3, .int v3), (4, .int v4), (6, .int x.1)] [] (rH mo h x.2) r h'
def X12_listOf_7_b42 (v1 : Int32) (v3 : Int32) (v4 : Int32) (v5 : Int32) (v6 : Int32) (s : RS) : Option ((Int32 × RS) ⊕ (Int32 × RS)) :=
  if v6 ≤ 0 then
    some (.inr (v6, s))
  else
    g_in (v6 - (1 : Int32)) 16 (
    (pX12_toldBy s v1 (s.2.2.1 6 (v6 - (1 : Int32)).toNatClampNeg) (3 : Int32)).bind fun x3 =>
    if x3 ≤ v5 then
      some (.inr (v6, s))
    else
      g_in (v6 - (1 : Int32)) 16 (
      g_in v6 16 (thn (uA s 6 (upd (s.2.2.1 6) v6.toNatClampNeg (s.2.2.1 6 (v6 - (1 : Int32)).toNatClampNeg))) fun s4 =>
      thn (v6 + (-1)) fun x5 =>
      some (.inl (x5, s4)))))
theorem X12_listOf_7_b42_ok (hh : mo + 18 ≤ h.2.1) (v1 : Int32) (v3 : Int32) (v4 : Int32) (v5 : Int32) (v6 : Int32) (s : RS) : aS l 6 MX12_listOf n0 S0 (a_LΦ (X12_listOf_7_x42 l n0 S0 mo h v1 v3 v4 v5) l 6 MX12_listOf n0 S0 42 (fun (q : Int32 × RS) => [(0, .ref mo), (1, .int v1), (2, .ref (mo + 7)), (3, .int v3), (4, .int v4), (5, .int v5), (6, .int q.1)]) (fun _ => []) (fun (q : Int32 × RS) => rH mo h q.2)) 42 [(0, .ref mo), (1, .int v1), (2, .ref (mo + 7)), (3, .int v3), (4, .int v4), (5, .int v5), (6, .int v6)] [] (rH mo h s) (X12_listOf_7_b42 v1 v3 v4 v5 v6 s) := by
  unfold X12_listOf_7_b42
  refine s_iload (pc := 42) 6 dX12_listOf_42 rfl ?_
  refine s_if_le (tgt := 80) (pc := 44) dX12_listOf_44 (by decide) (fun _ => ?_) (fun _ => ?_)
  · refine s_sub [0, 1, 2, 3, 4, 6] rfl ?_
    exact s_ev (fun _ _ q => q)
  · refine s_aload_n (pc := 47) 0 dX12_listOf_47 rfl ?_
    refine s_iload_n (pc := 48) 1 dX12_listOf_48 rfl ?_
    refine s_aload_n (pc := 49) 2 dX12_listOf_49 rfl ?_
    refine s_iload (pc := 50) 6 dX12_listOf_50 rfl ?_
    refine s_iconst (v := 1) (pc := 52) dX12_listOf_52 (by decide) ?_
    refine s_isub (pc := 53) dX12_listOf_53 ?_
    refine rl_6 hh (pc := 54) dX12_listOf_54 ?_
    refine s_iconst (v := 3) (pc := 55) dX12_listOf_55 (by decide) ?_
    refine s_callV (M := MX12_listOf) (As := [.int v1, .int (s.2.2.1 6 (v6 - (1 : Int32)).toNatClampNeg), .int 3]) (st := []) (Ψ := fun (x : Int32) => (some (.int x), rH mo h s)) cv_X12_346 (by decide) (pc := 56) dX12_listOf_56 r_0 (r_lt (k := 0) hh (by decide)) rfl (Nat.le_of_ble_eq_true rfl) (fun x hx => pX12_toldBy_ok hh s v1 (s.2.2.1 6 (v6 - (1 : Int32)).toNatClampNeg) (3 : Int32) x hx) rfl (fun x3 _ => ?_)
    refine s_iload (pc := 59) 5 dX12_listOf_59 rfl ?_
    refine s_icmp_le (tgt := 80) (pc := 61) dX12_listOf_61 (by decide) (fun _ => ?_) (fun _ => ?_)
    · refine s_sub [0, 1, 2, 3, 4, 6] rfl ?_
      exact s_ev (fun _ _ q => q)
    · refine s_aload_n (pc := 64) 2 dX12_listOf_64 rfl ?_
      refine s_iload (pc := 65) 6 dX12_listOf_65 rfl ?_
      refine s_aload_n (pc := 67) 2 dX12_listOf_67 rfl ?_
      refine s_iload (pc := 68) 6 dX12_listOf_68 rfl ?_
      refine s_iconst (v := 1) (pc := 70) dX12_listOf_70 (by decide) ?_
      refine s_isub (pc := 71) dX12_listOf_71 ?_
      refine rl_6 hh (pc := 72) dX12_listOf_72 ?_
      refine rs_6 hh (pc := 73) dX12_listOf_73 (fun s4 => ?_)
      refine s_iincT (pc := 74) 6 (lv' := fun x5 => [(6, .int x5), (0, .ref mo), (1, .int v1), (2, .ref (mo + 7)), (3, .int v3), (4, .int v4), (5, .int v5)]) dX12_listOf_74 rfl rfl (by decide) (fun _ => rfl) (fun x5 => ?_)
      refine s_goto (tgt := 42) (pc := 77) dX12_listOf_77 (by decide) ?_
      refine s_sub [1, 2, 3, 4, 5, 6, 0] rfl ?_
      exact s_ev (fun _ _ q => q)
def X12_listOf_7_j89 (v1 : Int32) (v3 : Int32) (v4 : Int32) (s : RS) : Option ((Int32 × Int32 × RS) ⊕ (Int32 × RS)) :=
  thn (v4 + 1) fun x9 =>
  some (.inl (v3, x9, s))
theorem X12_listOf_7_j89_ok (hh : mo + 18 ≤ h.2.1) (v1 : Int32) (v3 : Int32) (v4 : Int32) (s : RS) : aS l 6 MX12_listOf n0 S0 (a_LΦ (X12_listOf_7_x5 l n0 S0 mo h v1) l 6 MX12_listOf n0 S0 5 (fun (q : Int32 × Int32 × RS) => [(0, .ref mo), (1, .int v1), (2, .ref (mo + 7)), (3, .int q.1), (4, .int q.2.1)]) (fun _ => []) (fun (q : Int32 × Int32 × RS) => rH mo h q.2.2)) 89 [(0, .ref mo), (1, .int v1), (2, .ref (mo + 7)), (3, .int v3), (4, .int v4)] [] (rH mo h s) (X12_listOf_7_j89 v1 v3 v4 s) := by
  unfold X12_listOf_7_j89
  refine s_iincT (pc := 89) 4 (lv' := fun x9 => [(4, .int x9), (0, .ref mo), (1, .int v1), (2, .ref (mo + 7)), (3, .int v3)]) dX12_listOf_89 rfl rfl (by decide) (fun _ => rfl) (fun x9 => ?_)
  refine s_goto (tgt := 5) (pc := 92) dX12_listOf_92 (by decide) ?_
  refine s_sub [1, 2, 3, 4, 0] rfl ?_
  exact s_ev (fun _ _ q => q)
def X12_listOf_7_j80 (v1 : Int32) (v3 : Int32) (v4 : Int32) (v6 : Int32) (s : RS) : Option ((Int32 × Int32 × RS) ⊕ (Int32 × RS)) :=
  g_in v6 16 (thn (uA s 6 (upd (s.2.2.1 6) v6.toNatClampNeg v4)) fun s7 =>
  thn (v3 + 1) fun x8 =>
  X12_listOf_7_j89 v1 x8 v4 s7)
theorem X12_listOf_7_j80_ok (hh : mo + 18 ≤ h.2.1) (v1 : Int32) (v3 : Int32) (v4 : Int32) (v6 : Int32) (s : RS) : aS l 6 MX12_listOf n0 S0 (a_LΦ (X12_listOf_7_x5 l n0 S0 mo h v1) l 6 MX12_listOf n0 S0 5 (fun (q : Int32 × Int32 × RS) => [(0, .ref mo), (1, .int v1), (2, .ref (mo + 7)), (3, .int q.1), (4, .int q.2.1)]) (fun _ => []) (fun (q : Int32 × Int32 × RS) => rH mo h q.2.2)) 80 [(0, .ref mo), (1, .int v1), (2, .ref (mo + 7)), (3, .int v3), (4, .int v4), (6, .int v6)] [] (rH mo h s) (X12_listOf_7_j80 v1 v3 v4 v6 s) := by
  unfold X12_listOf_7_j80
  refine s_aload_n (pc := 80) 2 dX12_listOf_80 rfl ?_
  refine s_iload (pc := 81) 5 dX12_listOf_81 rfl ?_
  refine s_iload (pc := 83) 4 dX12_listOf_83 rfl ?_
  refine rs_6 hh (pc := 85) dX12_listOf_85 (fun s7 => ?_)
  refine s_iincT (pc := 86) 3 (lv' := fun x8 => [(3, .int x8), (0, .ref mo), (1, .int v1), (2, .ref (mo + 7)), (4, .int v4), (6, .int v6)]) dX12_listOf_86 rfl rfl (by decide) (fun _ => rfl) (fun x8 => ?_)
  refine s_sub [1, 2, 3, 0, 4] rfl ?_
  exact X12_listOf_7_j89_ok hh v1 x8 v4 s7
def X12_listOf_7_b5 (v1 : Int32) (v3 : Int32) (v4 : Int32) (s : RS) : Option ((Int32 × Int32 × RS) ⊕ (Int32 × RS)) :=
  g_in (0 : Int32) 1800 (
  if (s.2.2.1 4 (0 : Int32).toNatClampNeg) ≤ v4 then
    some (.inr (v3, s))
  else
    (pX12_isThere s v1 v4).bind fun x1 =>
    if x1 = true then
      (pX12_toldBy s v1 v4 (3 : Int32)).bind fun x2 =>
      (a_loop (fun (q : Int32 × RS) => X12_listOf_7_b42 v1 v3 v4 x2 q.1 q.2) FU (v3, s)).bind fun (t6 : Int32 × RS) =>
        X12_listOf_7_j80 v1 v3 v4 t6.1 t6.2
    else
      X12_listOf_7_j89 v1 v3 v4 s)
theorem X12_listOf_7_b5_ok (hh : mo + 18 ≤ h.2.1) (v1 : Int32) (v3 : Int32) (v4 : Int32) (s : RS) : aS l 6 MX12_listOf n0 S0 (a_LΦ (X12_listOf_7_x5 l n0 S0 mo h v1) l 6 MX12_listOf n0 S0 5 (fun (q : Int32 × Int32 × RS) => [(0, .ref mo), (1, .int v1), (2, .ref (mo + 7)), (3, .int q.1), (4, .int q.2.1)]) (fun _ => []) (fun (q : Int32 × Int32 × RS) => rH mo h q.2.2)) 5 [(0, .ref mo), (1, .int v1), (2, .ref (mo + 7)), (3, .int v3), (4, .int v4)] [] (rH mo h s) (X12_listOf_7_b5 v1 v3 v4 s) := by
  unfold X12_listOf_7_b5
  refine s_iload (pc := 5) 4 dX12_listOf_5 rfl ?_
  refine s_aload_n (pc := 7) 0 dX12_listOf_7 rfl ?_
  refine rg_35 hh (pc := 8) dX12_listOf_8 rfl ?_
  refine s_iconst (v := 0) (pc := 11) dX12_listOf_11 (by decide) ?_
  refine rl_4 hh (pc := 12) dX12_listOf_12 ?_
  refine s_icmp_ge (tgt := 95) (pc := 13) dX12_listOf_13 (by decide) (fun _ => ?_) (fun _ => ?_)
  · refine s_sub [3] rfl ?_
    exact s_ev (fun _ _ q => q)
  · refine s_aload_n (pc := 16) 0 dX12_listOf_16 rfl ?_
    refine s_iload_n (pc := 17) 1 dX12_listOf_17 rfl ?_
    refine s_iload (pc := 18) 4 dX12_listOf_18 rfl ?_
    refine s_callV (M := MX12_listOf) (As := [.int v1, .int v4]) (st := []) (Ψ := fun (x : Bool) => (some (.int (b2i x)), rH mo h s)) cv_X12_343 (by decide) (pc := 20) dX12_listOf_20 r_0 (r_lt (k := 0) hh (by decide)) rfl (Nat.le_of_ble_eq_true rfl) (fun x hx => pX12_isThere_ok hh s v1 v4 x hx) rfl (fun x1 _ => ?_)
    refine s_if_neB (tgt := 29) (pc := 23) dX12_listOf_23 (by decide) (fun _ => ?_) (fun _ => ?_)
    · refine s_aload_n (pc := 29) 0 dX12_listOf_29 rfl ?_
      refine s_iload_n (pc := 30) 1 dX12_listOf_30 rfl ?_
      refine s_iload (pc := 31) 4 dX12_listOf_31 rfl ?_
      refine s_iconst (v := 3) (pc := 33) dX12_listOf_33 (by decide) ?_
      refine s_callV (M := MX12_listOf) (As := [.int v1, .int v4, .int 3]) (st := []) (Ψ := fun (x : Int32) => (some (.int x), rH mo h s)) cv_X12_346 (by decide) (pc := 34) dX12_listOf_34 r_0 (r_lt (k := 0) hh (by decide)) rfl (Nat.le_of_ble_eq_true rfl) (fun x hx => pX12_toldBy_ok hh s v1 v4 (3 : Int32) x hx) rfl (fun x2 _ => ?_)
      refine s_istore (lv' := [(5, .int x2), (0, .ref mo), (1, .int v1), (2, .ref (mo + 7)), (3, .int v3), (4, .int v4)]) (pc := 37) dX12_listOf_37 (by decide) rfl ?_
      refine s_iload_n (pc := 39) 4 dX12_listOf_39 rfl ?_
      refine s_istore (lv' := [(6, .int v3), (5, .int x2), (0, .ref mo), (1, .int v1), (2, .ref (mo + 7)), (3, .int v3), (4, .int v4)]) (pc := 40) dX12_listOf_40 (by decide) rfl ?_
      refine s_bind (Ψ := X12_listOf_7_x42 l n0 S0 mo h v1 v3 v4 x2) ?_ ?_
      · refine s_sub [2, 3, 4, 5, 6, 1, 0] rfl ?_
        exact s_loop (lvf := fun (q : Int32 × RS) => [(0, .ref mo), (1, .int v1), (2, .ref (mo + 7)), (3, .int v3), (4, .int v4), (5, .int x2), (6, .int q.1)]) (stf := fun _ => []) (hf := fun (q : Int32 × RS) => rH mo h q.2) (fun q => X12_listOf_7_b42_ok hh v1 v3 v4 x2 q.1 q.2) FU (v3, s)
      · intro t6 z r h' hz hr
        refine (?_ : aS l 6 MX12_listOf n0 S0 (a_LΦ (X12_listOf_7_x5 l n0 S0 mo h v1) l 6 MX12_listOf n0 S0 5 (fun (q : Int32 × Int32 × RS) => [(0, .ref mo), (1, .int v1), (2, .ref (mo + 7)), (3, .int q.1), (4, .int q.2.1)]) (fun _ => []) (fun (q : Int32 × Int32 × RS) => rH mo h q.2.2)) 80 [(0, .ref mo), (1, .int v1), (2, .ref (mo + 7)), (3, .int v3), (4, .int v4), (6, .int t6.1)] [] (rH mo h t6.2) _) z hz r h' hr
        exact X12_listOf_7_j80_ok hh v1 v3 v4 t6.1 t6.2
    · refine s_goto (tgt := 89) (pc := 26) dX12_listOf_26 (by decide) ?_
      exact X12_listOf_7_j89_ok hh v1 v3 v4 s
def pX12_listOf_7 (s : RS) (a0 : Int32) : Option (Int32 × RS) :=
  (a_loop (fun (q : Int32 × Int32 × RS) => X12_listOf_7_b5 a0 q.1 q.2.1 q.2.2) FU ((0 : Int32), (0 : Int32), s)).bind fun (t10 : Int32 × RS) =>
    some (t10.1, t10.2)
theorem pX12_listOf_7_w (hh : mo + 18 ≤ h.2.1) (s : RS) (a0 : Int32) : aS l 6 MX12_listOf n0 S0 (oΦ (fun (x : Int32 × RS) => (some (.int x.1), rH mo h x.2))) 0 [(0, .ref mo), (1, .int a0), (2, .ref (mo + 7))] [] (rH mo h s) (pX12_listOf_7 s a0) := by
  unfold pX12_listOf_7
  refine s_iconst (v := 0) (pc := 0) dX12_listOf_0 (by decide) ?_
  refine s_istore_n (lv' := [(3, .int 0), (0, .ref mo), (1, .int a0), (2, .ref (mo + 7))]) (pc := 1) dX12_listOf_1 (by decide) rfl ?_
  refine s_iconst (v := 0) (pc := 2) dX12_listOf_2 (by decide) ?_
  refine s_istore (lv' := [(4, .int 0), (3, .int 0), (0, .ref mo), (1, .int a0), (2, .ref (mo + 7))]) (pc := 3) dX12_listOf_3 (by decide) rfl ?_
  refine s_bind (Ψ := X12_listOf_7_x5 l n0 S0 mo h a0) ?_ ?_
  · refine s_sub [2, 3, 4, 1, 0] rfl ?_
    exact s_loop (lvf := fun (q : Int32 × Int32 × RS) => [(0, .ref mo), (1, .int a0), (2, .ref (mo + 7)), (3, .int q.1), (4, .int q.2.1)]) (stf := fun _ => []) (hf := fun (q : Int32 × Int32 × RS) => rH mo h q.2.2) (fun q => X12_listOf_7_b5_ok hh a0 q.1 q.2.1 q.2.2) FU ((0 : Int32), (0 : Int32), s)
  · intro t10 z r h' hz hr
    refine (?_ : aS l 6 MX12_listOf n0 S0 (oΦ (fun (x : Int32 × RS) => (some (.int x.1), rH mo h x.2))) 95 [(3, .int t10.1)] [] (rH mo h t10.2) _) z hz r h' hr
    refine s_iload_n (pc := 95) 0 dX12_listOf_95 rfl ?_
    exact s_iret (pc := 96) dX12_listOf_96 rfl (fun _ _ q => q)
theorem pX12_listOf_7_ok (hh : mo + 18 ≤ h.2.1) (s : RS) (a0 : Int32) : ∀ x, pX12_listOf_7 s a0 = some x → aMet l 6 yX12_listOf cX12_listOf 7 (some .int) [.ref mo, .int a0, .ref (mo + 7)] (rH mo h s) (some (.int x.1)) (rH mo h x.2) := fun x hx => a_meth (ini := false) (y := yX12_listOf) (by decide +kernel) (fun q => by cases q) (fun _ => Nat.le_of_ble_eq_true rfl) (pX12_listOf_7_w hh s a0) x hx _ _ ⟨rfl, rfl⟩
end
section
variable {l : Launch} {n0 S0 : Nat} {mo : Nat} {h : aH}
def X12_listOf_8_x5 (l : Launch) (n0 S0 : Nat) (mo : Nat) (h : aH) (v1 : Int32) : (Int32 × RS) → Option Value → aH → Prop := fun (x : Int32 × RS) r h' => aEv l 6 MX12_listOf n0 S0 95 [(3, .int x.1)] [] (rH mo h x.2) r h'
def X12_listOf_8_x42 (l : Launch) (n0 S0 : Nat) (mo : Nat) (h : aH) (v1 : Int32) (v3 : Int32) (v4 : Int32) (v5 : Int32) : (Int32 × RS) → Option Value → aH → Prop := fun (x : Int32 × RS) r h' => aEv l 6 MX12_listOf n0 S0 80 [(0, .ref mo), (1, .int v1), (2, .ref (mo + 8)), (3, .int v3), (4, .int v4), (6, .int x.1)] [] (rH mo h x.2) r h'
def X12_listOf_8_b42 (v1 : Int32) (v3 : Int32) (v4 : Int32) (v5 : Int32) (v6 : Int32) (s : RS) : Option ((Int32 × RS) ⊕ (Int32 × RS)) :=
  if v6 ≤ 0 then
    some (.inr (v6, s))
  else
    g_in (v6 - (1 : Int32)) 16 (
    (pX12_toldBy s v1 (s.2.2.1 7 (v6 - (1 : Int32)).toNatClampNeg) (3 : Int32)).bind fun x3 =>
    if x3 ≤ v5 then
      some (.inr (v6, s))
    else
      g_in (v6 - (1 : Int32)) 16 (
      g_in v6 16 (thn (uA s 7 (upd (s.2.2.1 7) v6.toNatClampNeg (s.2.2.1 7 (v6 - (1 : Int32)).toNatClampNeg))) fun s4 =>
      thn (v6 + (-1)) fun x5 =>
      some (.inl (x5, s4)))))
theorem X12_listOf_8_b42_ok (hh : mo + 18 ≤ h.2.1) (v1 : Int32) (v3 : Int32) (v4 : Int32) (v5 : Int32) (v6 : Int32) (s : RS) : aS l 6 MX12_listOf n0 S0 (a_LΦ (X12_listOf_8_x42 l n0 S0 mo h v1 v3 v4 v5) l 6 MX12_listOf n0 S0 42 (fun (q : Int32 × RS) => [(0, .ref mo), (1, .int v1), (2, .ref (mo + 8)), (3, .int v3), (4, .int v4), (5, .int v5), (6, .int q.1)]) (fun _ => []) (fun (q : Int32 × RS) => rH mo h q.2)) 42 [(0, .ref mo), (1, .int v1), (2, .ref (mo + 8)), (3, .int v3), (4, .int v4), (5, .int v5), (6, .int v6)] [] (rH mo h s) (X12_listOf_8_b42 v1 v3 v4 v5 v6 s) := by
  unfold X12_listOf_8_b42
  refine s_iload (pc := 42) 6 dX12_listOf_42 rfl ?_
  refine s_if_le (tgt := 80) (pc := 44) dX12_listOf_44 (by decide) (fun _ => ?_) (fun _ => ?_)
  · refine s_sub [0, 1, 2, 3, 4, 6] rfl ?_
    exact s_ev (fun _ _ q => q)
  · refine s_aload_n (pc := 47) 0 dX12_listOf_47 rfl ?_
    refine s_iload_n (pc := 48) 1 dX12_listOf_48 rfl ?_
    refine s_aload_n (pc := 49) 2 dX12_listOf_49 rfl ?_
    refine s_iload (pc := 50) 6 dX12_listOf_50 rfl ?_
    refine s_iconst (v := 1) (pc := 52) dX12_listOf_52 (by decide) ?_
    refine s_isub (pc := 53) dX12_listOf_53 ?_
    refine rl_7 hh (pc := 54) dX12_listOf_54 ?_
    refine s_iconst (v := 3) (pc := 55) dX12_listOf_55 (by decide) ?_
    refine s_callV (M := MX12_listOf) (As := [.int v1, .int (s.2.2.1 7 (v6 - (1 : Int32)).toNatClampNeg), .int 3]) (st := []) (Ψ := fun (x : Int32) => (some (.int x), rH mo h s)) cv_X12_346 (by decide) (pc := 56) dX12_listOf_56 r_0 (r_lt (k := 0) hh (by decide)) rfl (Nat.le_of_ble_eq_true rfl) (fun x hx => pX12_toldBy_ok hh s v1 (s.2.2.1 7 (v6 - (1 : Int32)).toNatClampNeg) (3 : Int32) x hx) rfl (fun x3 _ => ?_)
    refine s_iload (pc := 59) 5 dX12_listOf_59 rfl ?_
    refine s_icmp_le (tgt := 80) (pc := 61) dX12_listOf_61 (by decide) (fun _ => ?_) (fun _ => ?_)
    · refine s_sub [0, 1, 2, 3, 4, 6] rfl ?_
      exact s_ev (fun _ _ q => q)
    · refine s_aload_n (pc := 64) 2 dX12_listOf_64 rfl ?_
      refine s_iload (pc := 65) 6 dX12_listOf_65 rfl ?_
      refine s_aload_n (pc := 67) 2 dX12_listOf_67 rfl ?_
      refine s_iload (pc := 68) 6 dX12_listOf_68 rfl ?_
      refine s_iconst (v := 1) (pc := 70) dX12_listOf_70 (by decide) ?_
      refine s_isub (pc := 71) dX12_listOf_71 ?_
      refine rl_7 hh (pc := 72) dX12_listOf_72 ?_
      refine rs_7 hh (pc := 73) dX12_listOf_73 (fun s4 => ?_)
      refine s_iincT (pc := 74) 6 (lv' := fun x5 => [(6, .int x5), (0, .ref mo), (1, .int v1), (2, .ref (mo + 8)), (3, .int v3), (4, .int v4), (5, .int v5)]) dX12_listOf_74 rfl rfl (by decide) (fun _ => rfl) (fun x5 => ?_)
      refine s_goto (tgt := 42) (pc := 77) dX12_listOf_77 (by decide) ?_
      refine s_sub [1, 2, 3, 4, 5, 6, 0] rfl ?_
      exact s_ev (fun _ _ q => q)
def X12_listOf_8_j89 (v1 : Int32) (v3 : Int32) (v4 : Int32) (s : RS) : Option ((Int32 × Int32 × RS) ⊕ (Int32 × RS)) :=
  thn (v4 + 1) fun x9 =>
  some (.inl (v3, x9, s))
theorem X12_listOf_8_j89_ok (hh : mo + 18 ≤ h.2.1) (v1 : Int32) (v3 : Int32) (v4 : Int32) (s : RS) : aS l 6 MX12_listOf n0 S0 (a_LΦ (X12_listOf_8_x5 l n0 S0 mo h v1) l 6 MX12_listOf n0 S0 5 (fun (q : Int32 × Int32 × RS) => [(0, .ref mo), (1, .int v1), (2, .ref (mo + 8)), (3, .int q.1), (4, .int q.2.1)]) (fun _ => []) (fun (q : Int32 × Int32 × RS) => rH mo h q.2.2)) 89 [(0, .ref mo), (1, .int v1), (2, .ref (mo + 8)), (3, .int v3), (4, .int v4)] [] (rH mo h s) (X12_listOf_8_j89 v1 v3 v4 s) := by
  unfold X12_listOf_8_j89
  refine s_iincT (pc := 89) 4 (lv' := fun x9 => [(4, .int x9), (0, .ref mo), (1, .int v1), (2, .ref (mo + 8)), (3, .int v3)]) dX12_listOf_89 rfl rfl (by decide) (fun _ => rfl) (fun x9 => ?_)
  refine s_goto (tgt := 5) (pc := 92) dX12_listOf_92 (by decide) ?_
  refine s_sub [1, 2, 3, 4, 0] rfl ?_
  exact s_ev (fun _ _ q => q)
def X12_listOf_8_j80 (v1 : Int32) (v3 : Int32) (v4 : Int32) (v6 : Int32) (s : RS) : Option ((Int32 × Int32 × RS) ⊕ (Int32 × RS)) :=
  g_in v6 16 (thn (uA s 7 (upd (s.2.2.1 7) v6.toNatClampNeg v4)) fun s7 =>
  thn (v3 + 1) fun x8 =>
  X12_listOf_8_j89 v1 x8 v4 s7)
theorem X12_listOf_8_j80_ok (hh : mo + 18 ≤ h.2.1) (v1 : Int32) (v3 : Int32) (v4 : Int32) (v6 : Int32) (s : RS) : aS l 6 MX12_listOf n0 S0 (a_LΦ (X12_listOf_8_x5 l n0 S0 mo h v1) l 6 MX12_listOf n0 S0 5 (fun (q : Int32 × Int32 × RS) => [(0, .ref mo), (1, .int v1), (2, .ref (mo + 8)), (3, .int q.1), (4, .int q.2.1)]) (fun _ => []) (fun (q : Int32 × Int32 × RS) => rH mo h q.2.2)) 80 [(0, .ref mo), (1, .int v1), (2, .ref (mo + 8)), (3, .int v3), (4, .int v4), (6, .int v6)] [] (rH mo h s) (X12_listOf_8_j80 v1 v3 v4 v6 s) := by
  unfold X12_listOf_8_j80
  refine s_aload_n (pc := 80) 2 dX12_listOf_80 rfl ?_
  refine s_iload (pc := 81) 5 dX12_listOf_81 rfl ?_
  refine s_iload (pc := 83) 4 dX12_listOf_83 rfl ?_
  refine rs_7 hh (pc := 85) dX12_listOf_85 (fun s7 => ?_)
  refine s_iincT (pc := 86) 3 (lv' := fun x8 => [(3, .int x8), (0, .ref mo), (1, .int v1), (2, .ref (mo + 8)), (4, .int v4), (6, .int v6)]) dX12_listOf_86 rfl rfl (by decide) (fun _ => rfl) (fun x8 => ?_)
  refine s_sub [1, 2, 3, 0, 4] rfl ?_
  exact X12_listOf_8_j89_ok hh v1 x8 v4 s7
def X12_listOf_8_b5 (v1 : Int32) (v3 : Int32) (v4 : Int32) (s : RS) : Option ((Int32 × Int32 × RS) ⊕ (Int32 × RS)) :=
  g_in (0 : Int32) 1800 (
  if (s.2.2.1 4 (0 : Int32).toNatClampNeg) ≤ v4 then
    some (.inr (v3, s))
  else
    (pX12_isThere s v1 v4).bind fun x1 =>
    if x1 = true then
      (pX12_toldBy s v1 v4 (3 : Int32)).bind fun x2 =>
      (a_loop (fun (q : Int32 × RS) => X12_listOf_8_b42 v1 v3 v4 x2 q.1 q.2) FU (v3, s)).bind fun (t6 : Int32 × RS) =>
        X12_listOf_8_j80 v1 v3 v4 t6.1 t6.2
    else
      X12_listOf_8_j89 v1 v3 v4 s)
theorem X12_listOf_8_b5_ok (hh : mo + 18 ≤ h.2.1) (v1 : Int32) (v3 : Int32) (v4 : Int32) (s : RS) : aS l 6 MX12_listOf n0 S0 (a_LΦ (X12_listOf_8_x5 l n0 S0 mo h v1) l 6 MX12_listOf n0 S0 5 (fun (q : Int32 × Int32 × RS) => [(0, .ref mo), (1, .int v1), (2, .ref (mo + 8)), (3, .int q.1), (4, .int q.2.1)]) (fun _ => []) (fun (q : Int32 × Int32 × RS) => rH mo h q.2.2)) 5 [(0, .ref mo), (1, .int v1), (2, .ref (mo + 8)), (3, .int v3), (4, .int v4)] [] (rH mo h s) (X12_listOf_8_b5 v1 v3 v4 s) := by
  unfold X12_listOf_8_b5
  refine s_iload (pc := 5) 4 dX12_listOf_5 rfl ?_
  refine s_aload_n (pc := 7) 0 dX12_listOf_7 rfl ?_
  refine rg_35 hh (pc := 8) dX12_listOf_8 rfl ?_
  refine s_iconst (v := 0) (pc := 11) dX12_listOf_11 (by decide) ?_
  refine rl_4 hh (pc := 12) dX12_listOf_12 ?_
  refine s_icmp_ge (tgt := 95) (pc := 13) dX12_listOf_13 (by decide) (fun _ => ?_) (fun _ => ?_)
  · refine s_sub [3] rfl ?_
    exact s_ev (fun _ _ q => q)
  · refine s_aload_n (pc := 16) 0 dX12_listOf_16 rfl ?_
    refine s_iload_n (pc := 17) 1 dX12_listOf_17 rfl ?_
    refine s_iload (pc := 18) 4 dX12_listOf_18 rfl ?_
    refine s_callV (M := MX12_listOf) (As := [.int v1, .int v4]) (st := []) (Ψ := fun (x : Bool) => (some (.int (b2i x)), rH mo h s)) cv_X12_343 (by decide) (pc := 20) dX12_listOf_20 r_0 (r_lt (k := 0) hh (by decide)) rfl (Nat.le_of_ble_eq_true rfl) (fun x hx => pX12_isThere_ok hh s v1 v4 x hx) rfl (fun x1 _ => ?_)
    refine s_if_neB (tgt := 29) (pc := 23) dX12_listOf_23 (by decide) (fun _ => ?_) (fun _ => ?_)
    · refine s_aload_n (pc := 29) 0 dX12_listOf_29 rfl ?_
      refine s_iload_n (pc := 30) 1 dX12_listOf_30 rfl ?_
      refine s_iload (pc := 31) 4 dX12_listOf_31 rfl ?_
      refine s_iconst (v := 3) (pc := 33) dX12_listOf_33 (by decide) ?_
      refine s_callV (M := MX12_listOf) (As := [.int v1, .int v4, .int 3]) (st := []) (Ψ := fun (x : Int32) => (some (.int x), rH mo h s)) cv_X12_346 (by decide) (pc := 34) dX12_listOf_34 r_0 (r_lt (k := 0) hh (by decide)) rfl (Nat.le_of_ble_eq_true rfl) (fun x hx => pX12_toldBy_ok hh s v1 v4 (3 : Int32) x hx) rfl (fun x2 _ => ?_)
      refine s_istore (lv' := [(5, .int x2), (0, .ref mo), (1, .int v1), (2, .ref (mo + 8)), (3, .int v3), (4, .int v4)]) (pc := 37) dX12_listOf_37 (by decide) rfl ?_
      refine s_iload_n (pc := 39) 4 dX12_listOf_39 rfl ?_
      refine s_istore (lv' := [(6, .int v3), (5, .int x2), (0, .ref mo), (1, .int v1), (2, .ref (mo + 8)), (3, .int v3), (4, .int v4)]) (pc := 40) dX12_listOf_40 (by decide) rfl ?_
      refine s_bind (Ψ := X12_listOf_8_x42 l n0 S0 mo h v1 v3 v4 x2) ?_ ?_
      · refine s_sub [2, 3, 4, 5, 6, 1, 0] rfl ?_
        exact s_loop (lvf := fun (q : Int32 × RS) => [(0, .ref mo), (1, .int v1), (2, .ref (mo + 8)), (3, .int v3), (4, .int v4), (5, .int x2), (6, .int q.1)]) (stf := fun _ => []) (hf := fun (q : Int32 × RS) => rH mo h q.2) (fun q => X12_listOf_8_b42_ok hh v1 v3 v4 x2 q.1 q.2) FU (v3, s)
      · intro t6 z r h' hz hr
        refine (?_ : aS l 6 MX12_listOf n0 S0 (a_LΦ (X12_listOf_8_x5 l n0 S0 mo h v1) l 6 MX12_listOf n0 S0 5 (fun (q : Int32 × Int32 × RS) => [(0, .ref mo), (1, .int v1), (2, .ref (mo + 8)), (3, .int q.1), (4, .int q.2.1)]) (fun _ => []) (fun (q : Int32 × Int32 × RS) => rH mo h q.2.2)) 80 [(0, .ref mo), (1, .int v1), (2, .ref (mo + 8)), (3, .int v3), (4, .int v4), (6, .int t6.1)] [] (rH mo h t6.2) _) z hz r h' hr
        exact X12_listOf_8_j80_ok hh v1 v3 v4 t6.1 t6.2
    · refine s_goto (tgt := 89) (pc := 26) dX12_listOf_26 (by decide) ?_
      exact X12_listOf_8_j89_ok hh v1 v3 v4 s
def pX12_listOf_8 (s : RS) (a0 : Int32) : Option (Int32 × RS) :=
  (a_loop (fun (q : Int32 × Int32 × RS) => X12_listOf_8_b5 a0 q.1 q.2.1 q.2.2) FU ((0 : Int32), (0 : Int32), s)).bind fun (t10 : Int32 × RS) =>
    some (t10.1, t10.2)
theorem pX12_listOf_8_w (hh : mo + 18 ≤ h.2.1) (s : RS) (a0 : Int32) : aS l 6 MX12_listOf n0 S0 (oΦ (fun (x : Int32 × RS) => (some (.int x.1), rH mo h x.2))) 0 [(0, .ref mo), (1, .int a0), (2, .ref (mo + 8))] [] (rH mo h s) (pX12_listOf_8 s a0) := by
  unfold pX12_listOf_8
  refine s_iconst (v := 0) (pc := 0) dX12_listOf_0 (by decide) ?_
  refine s_istore_n (lv' := [(3, .int 0), (0, .ref mo), (1, .int a0), (2, .ref (mo + 8))]) (pc := 1) dX12_listOf_1 (by decide) rfl ?_
  refine s_iconst (v := 0) (pc := 2) dX12_listOf_2 (by decide) ?_
  refine s_istore (lv' := [(4, .int 0), (3, .int 0), (0, .ref mo), (1, .int a0), (2, .ref (mo + 8))]) (pc := 3) dX12_listOf_3 (by decide) rfl ?_
  refine s_bind (Ψ := X12_listOf_8_x5 l n0 S0 mo h a0) ?_ ?_
  · refine s_sub [2, 3, 4, 1, 0] rfl ?_
    exact s_loop (lvf := fun (q : Int32 × Int32 × RS) => [(0, .ref mo), (1, .int a0), (2, .ref (mo + 8)), (3, .int q.1), (4, .int q.2.1)]) (stf := fun _ => []) (hf := fun (q : Int32 × Int32 × RS) => rH mo h q.2.2) (fun q => X12_listOf_8_b5_ok hh a0 q.1 q.2.1 q.2.2) FU ((0 : Int32), (0 : Int32), s)
  · intro t10 z r h' hz hr
    refine (?_ : aS l 6 MX12_listOf n0 S0 (oΦ (fun (x : Int32 × RS) => (some (.int x.1), rH mo h x.2))) 95 [(3, .int t10.1)] [] (rH mo h t10.2) _) z hz r h' hr
    refine s_iload_n (pc := 95) 0 dX12_listOf_95 rfl ?_
    exact s_iret (pc := 96) dX12_listOf_96 rfl (fun _ _ q => q)
theorem pX12_listOf_8_ok (hh : mo + 18 ≤ h.2.1) (s : RS) (a0 : Int32) : ∀ x, pX12_listOf_8 s a0 = some x → aMet l 6 yX12_listOf cX12_listOf 7 (some .int) [.ref mo, .int a0, .ref (mo + 8)] (rH mo h s) (some (.int x.1)) (rH mo h x.2) := fun x hx => a_meth (ini := false) (y := yX12_listOf) (by decide +kernel) (fun q => by cases q) (fun _ => Nat.le_of_ble_eq_true rfl) (pX12_listOf_8_w hh s a0) x hx _ _ ⟨rfl, rfl⟩
end
section
variable {l : Launch} {n0 S0 : Nat} {mo : Nat} {h : aH}
abbrev MX12_whyNot : aM := (cX12_whyNot, RX12, 2, (some .int), false)
def pX12_whyNot (s : RS) (a0 : Int32) : Option Int32 :=
  (pX12_isSet s a0).bind fun x1 =>
  if x1 = true then
    (pX12_lackOf s a0).bind fun x2 =>
    if x2 = 0 then
      some (0 : Int32)
    else
      some (9 : Int32)
  else
    some (2 : Int32)
theorem pX12_whyNot_w (hh : mo + 18 ≤ h.2.1) (s : RS) (a0 : Int32) : aS l 2 MX12_whyNot n0 S0 (oΦ (fun (x : Int32) => (some (.int x), rH mo h s))) 0 [(0, .ref mo), (1, .int a0)] [] (rH mo h s) (pX12_whyNot s a0) := by
  unfold pX12_whyNot
  refine s_aload_n (pc := 0) 0 dX12_whyNot_0 rfl ?_
  refine s_iload_n (pc := 1) 1 dX12_whyNot_1 rfl ?_
  refine s_callV (M := MX12_whyNot) (As := [.int a0]) (st := []) (Ψ := fun (x : Bool) => (some (.int (b2i x)), rH mo h s)) cv_X12_319 (by decide) (pc := 2) dX12_whyNot_2 r_0 (r_lt (k := 0) hh (by decide)) rfl (Nat.le_of_ble_eq_true rfl) (fun x hx => pX12_isSet_ok hh s a0 x hx) rfl (fun x1 _ => ?_)
  refine s_if_neB (tgt := 12) (pc := 5) dX12_whyNot_5 (by decide) (fun _ => ?_) (fun _ => ?_)
  · refine s_aload_n (pc := 12) 0 dX12_whyNot_12 rfl ?_
    refine s_iload_n (pc := 13) 1 dX12_whyNot_13 rfl ?_
    refine s_callV (M := MX12_whyNot) (As := [.int a0]) (st := []) (Ψ := fun (x : Int32) => (some (.int x), rH mo h s)) cv_X12_322 (by decide) (pc := 14) dX12_whyNot_14 r_0 (r_lt (k := 0) hh (by decide)) rfl (Nat.le_of_ble_eq_true rfl) (fun x hx => pX12_lackOf_ok hh s a0 x hx) rfl (fun x2 _ => ?_)
    refine s_if_eq (tgt := 25) (pc := 17) dX12_whyNot_17 (by decide) (fun _ => ?_) (fun _ => ?_)
    · refine s_iconst (v := 0) (pc := 25) dX12_whyNot_25 (by decide) ?_
      exact s_iret (pc := 26) dX12_whyNot_26 rfl (fun _ _ q => q)
    · refine s_bipush (v := 9) (pc := 20) dX12_whyNot_20 (by decide) ?_
      refine s_goto (tgt := 26) (pc := 22) dX12_whyNot_22 (by decide) ?_
      exact s_iret (pc := 26) dX12_whyNot_26 rfl (fun _ _ q => q)
  · refine s_iconst (v := 2) (pc := 8) dX12_whyNot_8 (by decide) ?_
    refine s_goto (tgt := 26) (pc := 9) dX12_whyNot_9 (by decide) ?_
    exact s_iret (pc := 26) dX12_whyNot_26 rfl (fun _ _ q => q)
theorem pX12_whyNot_ok (hh : mo + 18 ≤ h.2.1) (s : RS) (a0 : Int32) : ∀ x, pX12_whyNot s a0 = some x → aMet l 2 yX12_whyNot cX12_whyNot 2 (some .int) [.ref mo, .int a0] (rH mo h s) (some (.int x)) (rH mo h s) := fun x hx => a_meth (ini := false) (y := yX12_whyNot) (by decide +kernel) (fun q => by cases q) (fun _ => Nat.le_of_ble_eq_true rfl) (pX12_whyNot_w hh s a0) x hx _ _ ⟨rfl, rfl⟩
end
section
variable {l : Launch} {n0 S0 : Nat} {mo : Nat} {h : aH}
abbrev MX12_size : aM := (cX12_size, RX12, 2, (some .int), false)
def pX12_size (s : RS) (a0 : Int32) : Option (Int32 × RS) :=
  thn (uI s 1 (0 : Int32)) fun s1 =>
  (pX12_whyNot s1 a0).bind fun x2 =>
  thn (uI s1 0 x2) fun s3 =>
  if (s3.1 0) ≤ 0 then
    (pX12_listOf_7 s3 a0).bind fun x4 =>
    some (x4.1, x4.2)
  else
    some ((-1 : Int32), s3)
theorem pX12_size_w (hh : mo + 18 ≤ h.2.1) (s : RS) (a0 : Int32) : aS l 7 MX12_size n0 S0 (oΦ (fun (x : Int32 × RS) => (some (.int x.1), rH mo h x.2))) 0 [(0, .ref mo), (1, .int a0)] [] (rH mo h s) (pX12_size s a0) := by
  unfold pX12_size
  refine s_aload_n (pc := 0) 0 dX12_size_0 rfl ?_
  refine s_iconst (v := 0) (pc := 1) dX12_size_1 (by decide) ?_
  refine rp_75 hh (pc := 2) dX12_size_2 rfl (fun s1 => ?_)
  refine s_aload_n (pc := 5) 0 dX12_size_5 rfl ?_
  refine s_aload_n (pc := 6) 0 dX12_size_6 rfl ?_
  refine s_iload_n (pc := 7) 1 dX12_size_7 rfl ?_
  refine s_callV (M := MX12_size) (As := [.int a0]) (st := [.ref mo]) (Ψ := fun (x : Int32) => (some (.int x), rH mo h s1)) cv_X12_349 (by decide) (pc := 8) dX12_size_8 r_0 (r_lt (k := 0) hh (by decide)) rfl (Nat.le_of_ble_eq_true rfl) (fun x hx => pX12_whyNot_ok hh s1 a0 x hx) rfl (fun x2 _ => ?_)
  refine rp_78 hh (pc := 11) dX12_size_11 rfl (fun s3 => ?_)
  refine s_aload_n (pc := 14) 0 dX12_size_14 rfl ?_
  refine rg_78 hh (pc := 15) dX12_size_15 rfl ?_
  refine s_if_le (tgt := 25) (pc := 18) dX12_size_18 (by decide) (fun _ => ?_) (fun _ => ?_)
  · refine s_aload_n (pc := 25) 0 dX12_size_25 rfl ?_
    refine s_iload_n (pc := 26) 1 dX12_size_26 rfl ?_
    refine s_aload_n (pc := 27) 0 dX12_size_27 rfl ?_
    refine rg_41 hh (pc := 28) dX12_size_28 rfl ?_
    refine s_callV (M := MX12_size) (As := [.int a0, .ref (mo + 7)]) (st := []) (Ψ := fun (x : Int32 × RS) => (some (.int x.1), rH mo h x.2)) cv_X12_352 (by decide) (pc := 31) dX12_size_31 r_0 (r_lt (k := 0) hh (by decide)) rfl (Nat.le_of_ble_eq_true rfl) (fun x hx => pX12_listOf_7_ok hh s3 a0 x hx) rfl (fun x4 _ => ?_)
    exact s_iret (pc := 34) dX12_size_34 rfl (fun _ _ q => q)
  · refine s_iconst (v := (-1)) (pc := 21) dX12_size_21 (by decide) ?_
    refine s_goto (tgt := 34) (pc := 22) dX12_size_22 (by decide) ?_
    exact s_iret (pc := 34) dX12_size_34 rfl (fun _ _ q => q)
theorem pX12_size_ok (hh : mo + 18 ≤ h.2.1) (s : RS) (a0 : Int32) : ∀ x, pX12_size s a0 = some x → aMet l 7 yX12_size cX12_size 2 (some .int) [.ref mo, .int a0] (rH mo h s) (some (.int x.1)) (rH mo h x.2) := fun x hx => a_meth (ini := false) (y := yX12_size) (by decide +kernel) (fun q => by cases q) (fun _ => Nat.le_of_ble_eq_true rfl) (pX12_size_w hh s a0) x hx _ _ ⟨rfl, rfl⟩
end
section
variable {l : Launch} {n0 S0 : Nat} {mo : Nat} {h : aH}
abbrev MX12_thing : aM := (cX12_thing, RX12, 3, (some .int), false)
def pX12_thing (s : RS) (a0 : Int32) (a1 : Int32) : Option (Int32 × RS) :=
  thn (uI s 1 (0 : Int32)) fun s1 =>
  (pX12_whyNot s1 a0).bind fun x2 =>
  thn (uI s1 0 x2) fun s3 =>
  if (s3.1 0) ≤ 0 then
    (pX12_listOf_7 s3 a0).bind fun x4 =>
    thn (uI x4.2 25 x4.1) fun s5 =>
    (pX12_isIn a1.toInt64 (0 : Int64) (((s5.1 25) - (1 : Int32)).toInt64)).bind fun x6 =>
    if x6 = true then
      g_in a1 16 (
      some ((s5.2.2.1 6 a1.toNatClampNeg), s5))
    else
      (pX12_refuse s5 (8 : Int32)).bind fun x7 =>
      some (x7.1, x7.2)
  else
    some ((-1 : Int32), s3)
theorem pX12_thing_w (hh : mo + 18 ≤ h.2.1) (s : RS) (a0 : Int32) (a1 : Int32) : aS l 7 MX12_thing n0 S0 (oΦ (fun (x : Int32 × RS) => (some (.int x.1), rH mo h x.2))) 0 [(0, .ref mo), (1, .int a0), (2, .int a1)] [] (rH mo h s) (pX12_thing s a0 a1) := by
  unfold pX12_thing
  refine s_aload_n (pc := 0) 0 dX12_thing_0 rfl ?_
  refine s_iconst (v := 0) (pc := 1) dX12_thing_1 (by decide) ?_
  refine rp_75 hh (pc := 2) dX12_thing_2 rfl (fun s1 => ?_)
  refine s_aload_n (pc := 5) 0 dX12_thing_5 rfl ?_
  refine s_aload_n (pc := 6) 0 dX12_thing_6 rfl ?_
  refine s_iload_n (pc := 7) 1 dX12_thing_7 rfl ?_
  refine s_callV (M := MX12_thing) (As := [.int a0]) (st := [.ref mo]) (Ψ := fun (x : Int32) => (some (.int x), rH mo h s1)) cv_X12_349 (by decide) (pc := 8) dX12_thing_8 r_0 (r_lt (k := 0) hh (by decide)) rfl (Nat.le_of_ble_eq_true rfl) (fun x hx => pX12_whyNot_ok hh s1 a0 x hx) rfl (fun x2 _ => ?_)
  refine rp_78 hh (pc := 11) dX12_thing_11 rfl (fun s3 => ?_)
  refine s_aload_n (pc := 14) 0 dX12_thing_14 rfl ?_
  refine rg_78 hh (pc := 15) dX12_thing_15 rfl ?_
  refine s_if_le (tgt := 23) (pc := 18) dX12_thing_18 (by decide) (fun _ => ?_) (fun _ => ?_)
  · refine s_aload_n (pc := 23) 0 dX12_thing_23 rfl ?_
    refine s_aload_n (pc := 24) 0 dX12_thing_24 rfl ?_
    refine s_iload_n (pc := 25) 1 dX12_thing_25 rfl ?_
    refine s_aload_n (pc := 26) 0 dX12_thing_26 rfl ?_
    refine rg_41 hh (pc := 27) dX12_thing_27 rfl ?_
    refine s_callV (M := MX12_thing) (As := [.int a0, .ref (mo + 7)]) (st := [.ref mo]) (Ψ := fun (x : Int32 × RS) => (some (.int x.1), rH mo h x.2)) cv_X12_352 (by decide) (pc := 30) dX12_thing_30 r_0 (r_lt (k := 0) hh (by decide)) rfl (Nat.le_of_ble_eq_true rfl) (fun x hx => pX12_listOf_7_ok hh s3 a0 x hx) rfl (fun x4 _ => ?_)
    refine rp_356 hh (pc := 33) dX12_thing_33 rfl (fun s5 => ?_)
    refine s_iload_n (pc := 36) 2 dX12_thing_36 rfl ?_
    refine s_i2l (pc := 37) dX12_thing_37 ?_
    refine s_lconst (v := 0) (pc := 38) dX12_thing_38 (by decide) ?_
    refine s_aload_n (pc := 39) 0 dX12_thing_39 rfl ?_
    refine rg_356 hh (pc := 40) dX12_thing_40 rfl ?_
    refine s_iconst (v := 1) (pc := 43) dX12_thing_43 (by decide) ?_
    refine s_isub (pc := 44) dX12_thing_44 ?_
    refine s_i2l (pc := 45) dX12_thing_45 ?_
    refine s_callS (M := MX12_thing) (As := [.long a1.toInt64, .long (0 : Int64), .long ((s5.1 25) - (1 : Int32)).toInt64]) (st := []) (Ψ := fun (x : Bool) => (some (.int (b2i x)), rH mo h s5)) cs_X12_110 (by decide) (pc := 46) dX12_thing_46 rfl (Nat.le_of_ble_eq_true rfl) (fun x hx => pX12_isIn_ok a1.toInt64 (0 : Int64) (((s5.1 25) - (1 : Int32)).toInt64) x hx) rfl (fun x6 _ => ?_)
    refine s_if_eqB (tgt := 61) (pc := 49) dX12_thing_49 (by decide) (fun _ => ?_) (fun _ => ?_)
    · refine s_aload_n (pc := 52) 0 dX12_thing_52 rfl ?_
      refine rg_41 hh (pc := 53) dX12_thing_53 rfl ?_
      refine s_iload_n (pc := 56) 2 dX12_thing_56 rfl ?_
      refine rl_6 hh (pc := 57) dX12_thing_57 ?_
      refine s_goto (tgt := 67) (pc := 58) dX12_thing_58 (by decide) ?_
      exact s_iret (pc := 67) dX12_thing_67 rfl (fun _ _ q => q)
    · refine s_aload_n (pc := 61) 0 dX12_thing_61 rfl ?_
      refine s_bipush (v := 8) (pc := 62) dX12_thing_62 (by decide) ?_
      refine s_callV (M := MX12_thing) (As := [.int 8]) (st := []) (Ψ := fun (x : Int32 × RS) => (some (.int x.1), rH mo h x.2)) cv_X12_299 (by decide) (pc := 64) dX12_thing_64 r_0 (r_lt (k := 0) hh (by decide)) rfl (Nat.le_of_ble_eq_true rfl) (fun x hx => pX12_refuse_ok hh s5 (8 : Int32) x hx) rfl (fun x7 _ => ?_)
      exact s_iret (pc := 67) dX12_thing_67 rfl (fun _ _ q => q)
  · refine s_iconst (v := (-1)) (pc := 21) dX12_thing_21 (by decide) ?_
    exact s_iret (pc := 22) dX12_thing_22 rfl (fun _ _ q => q)
theorem pX12_thing_ok (hh : mo + 18 ≤ h.2.1) (s : RS) (a0 : Int32) (a1 : Int32) : ∀ x, pX12_thing s a0 a1 = some x → aMet l 7 yX12_thing cX12_thing 3 (some .int) [.ref mo, .int a0, .int a1] (rH mo h s) (some (.int x.1)) (rH mo h x.2) := fun x hx => a_meth (ini := false) (y := yX12_thing) (by decide +kernel) (fun q => by cases q) (fun _ => Nat.le_of_ble_eq_true rfl) (pX12_thing_w hh s a0 a1) x hx _ _ ⟨rfl, rfl⟩
end
section
variable {l : Launch} {n0 S0 : Nat} {mo : Nat} {h : aH}
abbrev MX12_whyNoThing : aM := (cX12_whyNoThing, RX12, 3, (some .int), false)
def pX12_whyNoThing (s : RS) (a0 : Int32) (a1 : Int32) : Option Int32 :=
  (pX12_isSet s a0).bind fun x1 =>
  if x1 = true then
    (pX12_isChange s a1).bind fun x2 =>
    if x2 = true then
      (pX12_lackOf s a0).bind fun x3 =>
      if x3 = 0 then
        (pX12_isThere s a0 a1).bind fun x4 =>
        if x4 = true then
          some (0 : Int32)
        else
          some (8 : Int32)
      else
        some (9 : Int32)
    else
      some (2 : Int32)
  else
    some (2 : Int32)
theorem pX12_whyNoThing_w (hh : mo + 18 ≤ h.2.1) (s : RS) (a0 : Int32) (a1 : Int32) : aS l 6 MX12_whyNoThing n0 S0 (oΦ (fun (x : Int32) => (some (.int x), rH mo h s))) 0 [(0, .ref mo), (1, .int a0), (2, .int a1)] [] (rH mo h s) (pX12_whyNoThing s a0 a1) := by
  unfold pX12_whyNoThing
  refine s_aload_n (pc := 0) 0 dX12_whyNoThing_0 rfl ?_
  refine s_iload_n (pc := 1) 1 dX12_whyNoThing_1 rfl ?_
  refine s_callV (M := MX12_whyNoThing) (As := [.int a0]) (st := []) (Ψ := fun (x : Bool) => (some (.int (b2i x)), rH mo h s)) cv_X12_319 (by decide) (pc := 2) dX12_whyNoThing_2 r_0 (r_lt (k := 0) hh (by decide)) rfl (Nat.le_of_ble_eq_true rfl) (fun x hx => pX12_isSet_ok hh s a0 x hx) rfl (fun x1 _ => ?_)
  refine s_if_eqB (tgt := 16) (pc := 5) dX12_whyNoThing_5 (by decide) (fun _ => ?_) (fun _ => ?_)
  · refine s_aload_n (pc := 8) 0 dX12_whyNoThing_8 rfl ?_
    refine s_iload_n (pc := 9) 2 dX12_whyNoThing_9 rfl ?_
    refine s_callV (M := MX12_whyNoThing) (As := [.int a1]) (st := []) (Ψ := fun (x : Bool) => (some (.int (b2i x)), rH mo h s)) cv_X12_311 (by decide) (pc := 10) dX12_whyNoThing_10 r_0 (r_lt (k := 0) hh (by decide)) rfl (Nat.le_of_ble_eq_true rfl) (fun x hx => pX12_isChange_ok hh s a1 x hx) rfl (fun x2 _ => ?_)
    refine s_if_neB (tgt := 18) (pc := 13) dX12_whyNoThing_13 (by decide) (fun _ => ?_) (fun _ => ?_)
    · refine s_aload_n (pc := 18) 0 dX12_whyNoThing_18 rfl ?_
      refine s_iload_n (pc := 19) 1 dX12_whyNoThing_19 rfl ?_
      refine s_callV (M := MX12_whyNoThing) (As := [.int a0]) (st := []) (Ψ := fun (x : Int32) => (some (.int x), rH mo h s)) cv_X12_322 (by decide) (pc := 20) dX12_whyNoThing_20 r_0 (r_lt (k := 0) hh (by decide)) rfl (Nat.le_of_ble_eq_true rfl) (fun x hx => pX12_lackOf_ok hh s a0 x hx) rfl (fun x3 _ => ?_)
      refine s_if_eq (tgt := 31) (pc := 23) dX12_whyNoThing_23 (by decide) (fun _ => ?_) (fun _ => ?_)
      · refine s_aload_n (pc := 31) 0 dX12_whyNoThing_31 rfl ?_
        refine s_iload_n (pc := 32) 1 dX12_whyNoThing_32 rfl ?_
        refine s_iload_n (pc := 33) 2 dX12_whyNoThing_33 rfl ?_
        refine s_callV (M := MX12_whyNoThing) (As := [.int a0, .int a1]) (st := []) (Ψ := fun (x : Bool) => (some (.int (b2i x)), rH mo h s)) cv_X12_343 (by decide) (pc := 34) dX12_whyNoThing_34 r_0 (r_lt (k := 0) hh (by decide)) rfl (Nat.le_of_ble_eq_true rfl) (fun x hx => pX12_isThere_ok hh s a0 a1 x hx) rfl (fun x4 _ => ?_)
        refine s_if_eqB (tgt := 44) (pc := 37) dX12_whyNoThing_37 (by decide) (fun _ => ?_) (fun _ => ?_)
        · refine s_iconst (v := 0) (pc := 40) dX12_whyNoThing_40 (by decide) ?_
          refine s_goto (tgt := 46) (pc := 41) dX12_whyNoThing_41 (by decide) ?_
          exact s_iret (pc := 46) dX12_whyNoThing_46 rfl (fun _ _ q => q)
        · refine s_bipush (v := 8) (pc := 44) dX12_whyNoThing_44 (by decide) ?_
          exact s_iret (pc := 46) dX12_whyNoThing_46 rfl (fun _ _ q => q)
      · refine s_bipush (v := 9) (pc := 26) dX12_whyNoThing_26 (by decide) ?_
        refine s_goto (tgt := 46) (pc := 28) dX12_whyNoThing_28 (by decide) ?_
        exact s_iret (pc := 46) dX12_whyNoThing_46 rfl (fun _ _ q => q)
    · refine s_iconst (v := 2) (pc := 16) dX12_whyNoThing_16 (by decide) ?_
      exact s_iret (pc := 17) dX12_whyNoThing_17 rfl (fun _ _ q => q)
  · refine s_iconst (v := 2) (pc := 16) dX12_whyNoThing_16 (by decide) ?_
    exact s_iret (pc := 17) dX12_whyNoThing_17 rfl (fun _ _ q => q)
theorem pX12_whyNoThing_ok (hh : mo + 18 ≤ h.2.1) (s : RS) (a0 : Int32) (a1 : Int32) : ∀ x, pX12_whyNoThing s a0 a1 = some x → aMet l 6 yX12_whyNoThing cX12_whyNoThing 3 (some .int) [.ref mo, .int a0, .int a1] (rH mo h s) (some (.int x)) (rH mo h s) := fun x hx => a_meth (ini := false) (y := yX12_whyNoThing) (by decide +kernel) (fun q => by cases q) (fun _ => Nat.le_of_ble_eq_true rfl) (pX12_whyNoThing_w hh s a0 a1) x hx _ _ ⟨rfl, rfl⟩
end
section
variable {l : Launch} {n0 S0 : Nat} {mo : Nat} {h : aH}
abbrev MX12_says : aM := (cX12_says, RX12, 3, (some .int), false)
def pX12_says (s : RS) (a0 : Int32) (a1 : Int32) : Option (Int32 × RS) :=
  thn (uI s 1 (0 : Int32)) fun s1 =>
  (pX12_whyNoThing s1 a0 a1).bind fun x2 =>
  thn (uI s1 0 x2) fun s3 =>
  if (s3.1 0) ≤ 0 then
    (pX12_toldBy s3 a0 a1 (2 : Int32)).bind fun x4 =>
    some (x4, s3)
  else
    some ((-1 : Int32), s3)
theorem pX12_says_w (hh : mo + 18 ≤ h.2.1) (s : RS) (a0 : Int32) (a1 : Int32) : aS l 7 MX12_says n0 S0 (oΦ (fun (x : Int32 × RS) => (some (.int x.1), rH mo h x.2))) 0 [(0, .ref mo), (1, .int a0), (2, .int a1)] [] (rH mo h s) (pX12_says s a0 a1) := by
  unfold pX12_says
  refine s_aload_n (pc := 0) 0 dX12_says_0 rfl ?_
  refine s_iconst (v := 0) (pc := 1) dX12_says_1 (by decide) ?_
  refine rp_75 hh (pc := 2) dX12_says_2 rfl (fun s1 => ?_)
  refine s_aload_n (pc := 5) 0 dX12_says_5 rfl ?_
  refine s_aload_n (pc := 6) 0 dX12_says_6 rfl ?_
  refine s_iload_n (pc := 7) 1 dX12_says_7 rfl ?_
  refine s_iload_n (pc := 8) 2 dX12_says_8 rfl ?_
  refine s_callV (M := MX12_says) (As := [.int a0, .int a1]) (st := [.ref mo]) (Ψ := fun (x : Int32) => (some (.int x), rH mo h s1)) cv_X12_359 (by decide) (pc := 9) dX12_says_9 r_0 (r_lt (k := 0) hh (by decide)) rfl (Nat.le_of_ble_eq_true rfl) (fun x hx => pX12_whyNoThing_ok hh s1 a0 a1 x hx) rfl (fun x2 _ => ?_)
  refine rp_78 hh (pc := 12) dX12_says_12 rfl (fun s3 => ?_)
  refine s_aload_n (pc := 15) 0 dX12_says_15 rfl ?_
  refine rg_78 hh (pc := 16) dX12_says_16 rfl ?_
  refine s_if_le (tgt := 26) (pc := 19) dX12_says_19 (by decide) (fun _ => ?_) (fun _ => ?_)
  · refine s_aload_n (pc := 26) 0 dX12_says_26 rfl ?_
    refine s_iload_n (pc := 27) 1 dX12_says_27 rfl ?_
    refine s_iload_n (pc := 28) 2 dX12_says_28 rfl ?_
    refine s_iconst (v := 2) (pc := 29) dX12_says_29 (by decide) ?_
    refine s_callV (M := MX12_says) (As := [.int a0, .int a1, .int 2]) (st := []) (Ψ := fun (x : Int32) => (some (.int x), rH mo h s3)) cv_X12_346 (by decide) (pc := 30) dX12_says_30 r_0 (r_lt (k := 0) hh (by decide)) rfl (Nat.le_of_ble_eq_true rfl) (fun x hx => pX12_toldBy_ok hh s3 a0 a1 (2 : Int32) x hx) rfl (fun x4 _ => ?_)
    exact s_iret (pc := 33) dX12_says_33 rfl (fun _ _ q => q)
  · refine s_iconst (v := (-1)) (pc := 22) dX12_says_22 (by decide) ?_
    refine s_goto (tgt := 33) (pc := 23) dX12_says_23 (by decide) ?_
    exact s_iret (pc := 33) dX12_says_33 rfl (fun _ _ q => q)
theorem pX12_says_ok (hh : mo + 18 ≤ h.2.1) (s : RS) (a0 : Int32) (a1 : Int32) : ∀ x, pX12_says s a0 a1 = some x → aMet l 7 yX12_says cX12_says 3 (some .int) [.ref mo, .int a0, .int a1] (rH mo h s) (some (.int x.1)) (rH mo h x.2) := fun x hx => a_meth (ini := false) (y := yX12_says) (by decide +kernel) (fun q => by cases q) (fun _ => Nat.le_of_ble_eq_true rfl) (pX12_says_w hh s a0 a1) x hx _ _ ⟨rfl, rfl⟩
end
