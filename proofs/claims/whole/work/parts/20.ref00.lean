section
variable {l : Launch} {n0 S0 : Nat} {mo : Nat} {h : aH}
abbrev MX12_status : aM := (cX12_status, RX12, 1, (some .int), false)
def pX12_status (s : RS) : Option (Int32 × RS) :=
  thn (uI s 1 (0 : Int32)) fun s1 =>
  some ((s1.1 0), s1)
theorem pX12_status_w (hh : mo + 18 ≤ h.2.1) (s : RS) : aS l 0 MX12_status n0 S0 (oΦ (fun (x : Int32 × RS) => (some (.int x.1), rH mo h x.2))) 0 [(0, .ref mo)] [] (rH mo h s) (pX12_status s) := by
  unfold pX12_status
  refine s_aload_n (pc := 0) 0 dX12_status_0 rfl ?_
  refine s_iconst (v := 0) (pc := 1) dX12_status_1 (by decide) ?_
  refine rp_75 hh (pc := 2) dX12_status_2 rfl (fun s1 => ?_)
  refine s_aload_n (pc := 5) 0 dX12_status_5 rfl ?_
  refine rg_78 hh (pc := 6) dX12_status_6 rfl ?_
  exact s_iret (pc := 9) dX12_status_9 rfl (fun _ _ q => q)
theorem pX12_status_ok (hh : mo + 18 ≤ h.2.1) (s : RS) : ∀ x, pX12_status s = some x → aMet l 0 yX12_status cX12_status 1 (some .int) [.ref mo] (rH mo h s) (some (.int x.1)) (rH mo h x.2) := fun x hx => a_meth (ini := false) (y := yX12_status) (by decide +kernel) (fun q => by cases q) (fun _ => Nat.le_of_ble_eq_true rfl) (pX12_status_w hh s) x hx _ _ ⟨rfl, rfl⟩
end
section
variable {l : Launch} {n0 S0 : Nat} {mo : Nat} {h : aH}
abbrev MX12_top : aM := (cX12_top, RX12, 1, (some .long), false)
def pX12_top (s : RS) : Option (Int64 × RS) :=
  thn (uI s 1 (0 : Int32)) fun s1 =>
  some ((s1.2.1 2), s1)
theorem pX12_top_w (hh : mo + 18 ≤ h.2.1) (s : RS) : aS l 0 MX12_top n0 S0 (oΦ (fun (x : Int64 × RS) => (some (.long x.1), rH mo h x.2))) 0 [(0, .ref mo)] [] (rH mo h s) (pX12_top s) := by
  unfold pX12_top
  refine s_aload_n (pc := 0) 0 dX12_top_0 rfl ?_
  refine s_iconst (v := 0) (pc := 1) dX12_top_1 (by decide) ?_
  refine rp_75 hh (pc := 2) dX12_top_2 rfl (fun s1 => ?_)
  refine s_aload_n (pc := 5) 0 dX12_top_5 rfl ?_
  refine rg_81 hh (pc := 6) dX12_top_6 rfl ?_
  exact s_lret (pc := 9) dX12_top_9 rfl (fun _ _ q => q)
theorem pX12_top_ok (hh : mo + 18 ≤ h.2.1) (s : RS) : ∀ x, pX12_top s = some x → aMet l 0 yX12_top cX12_top 1 (some .long) [.ref mo] (rH mo h s) (some (.long x.1)) (rH mo h x.2) := fun x hx => a_meth (ini := false) (y := yX12_top) (by decide +kernel) (fun q => by cases q) (fun _ => Nat.le_of_ble_eq_true rfl) (pX12_top_w hh s) x hx _ _ ⟨rfl, rfl⟩
end
section
variable {l : Launch} {n0 S0 : Nat} {mo : Nat} {h : aH}
abbrev MX12_bottom : aM := (cX12_bottom, RX12, 1, (some .long), false)
def pX12_bottom (s : RS) : Option (Int64 × RS) :=
  thn (uI s 1 (0 : Int32)) fun s1 =>
  some ((s1.2.1 3), s1)
theorem pX12_bottom_w (hh : mo + 18 ≤ h.2.1) (s : RS) : aS l 0 MX12_bottom n0 S0 (oΦ (fun (x : Int64 × RS) => (some (.long x.1), rH mo h x.2))) 0 [(0, .ref mo)] [] (rH mo h s) (pX12_bottom s) := by
  unfold pX12_bottom
  refine s_aload_n (pc := 0) 0 dX12_bottom_0 rfl ?_
  refine s_iconst (v := 0) (pc := 1) dX12_bottom_1 (by decide) ?_
  refine rp_75 hh (pc := 2) dX12_bottom_2 rfl (fun s1 => ?_)
  refine s_aload_n (pc := 5) 0 dX12_bottom_5 rfl ?_
  refine rg_7 hh (pc := 6) dX12_bottom_6 rfl ?_
  exact s_lret (pc := 9) dX12_bottom_9 rfl (fun _ _ q => q)
theorem pX12_bottom_ok (hh : mo + 18 ≤ h.2.1) (s : RS) : ∀ x, pX12_bottom s = some x → aMet l 0 yX12_bottom cX12_bottom 1 (some .long) [.ref mo] (rH mo h s) (some (.long x.1)) (rH mo h x.2) := fun x hx => a_meth (ini := false) (y := yX12_bottom) (by decide +kernel) (fun q => by cases q) (fun _ => Nat.le_of_ble_eq_true rfl) (pX12_bottom_w hh s) x hx _ _ ⟨rfl, rfl⟩
end
section
variable {l : Launch} {n0 S0 : Nat} {mo : Nat} {h : aH}
abbrev MX12_refuse : aM := (cX12_refuse, RX12, 2, (some .int), false)
def pX12_refuse (s : RS) (a0 : Int32) : Option (Int32 × RS) :=
  thn (uI s 0 a0) fun s1 =>
  some ((-1 : Int32), s1)
theorem pX12_refuse_w (hh : mo + 18 ≤ h.2.1) (s : RS) (a0 : Int32) : aS l 0 MX12_refuse n0 S0 (oΦ (fun (x : Int32 × RS) => (some (.int x.1), rH mo h x.2))) 0 [(0, .ref mo), (1, .int a0)] [] (rH mo h s) (pX12_refuse s a0) := by
  unfold pX12_refuse
  refine s_aload_n (pc := 0) 0 dX12_refuse_0 rfl ?_
  refine s_iload_n (pc := 1) 1 dX12_refuse_1 rfl ?_
  refine rp_78 hh (pc := 2) dX12_refuse_2 rfl (fun s1 => ?_)
  refine s_iconst (v := (-1)) (pc := 5) dX12_refuse_5 (by decide) ?_
  exact s_iret (pc := 6) dX12_refuse_6 rfl (fun _ _ q => q)
theorem pX12_refuse_ok (hh : mo + 18 ≤ h.2.1) (s : RS) (a0 : Int32) : ∀ x, pX12_refuse s a0 = some x → aMet l 0 yX12_refuse cX12_refuse 2 (some .int) [.ref mo, .int a0] (rH mo h s) (some (.int x.1)) (rH mo h x.2) := fun x hx => a_meth (ini := false) (y := yX12_refuse) (by decide +kernel) (fun q => by cases q) (fun _ => Nat.le_of_ble_eq_true rfl) (pX12_refuse_w hh s a0) x hx _ _ ⟨rfl, rfl⟩
end
section
variable {l : Launch} {n0 S0 : Nat} {mo : Nat} {h : aH}
abbrev MX12_no : aM := (cX12_no, RX12, 2, (some .boolean), false)
def pX12_no (s : RS) (a0 : Int32) : Option (Bool × RS) :=
  thn (uI s 0 a0) fun s1 =>
  some (false, s1)
theorem pX12_no_w (hh : mo + 18 ≤ h.2.1) (s : RS) (a0 : Int32) : aS l 0 MX12_no n0 S0 (oΦ (fun (x : Bool × RS) => (some (.int (b2i x.1)), rH mo h x.2))) 0 [(0, .ref mo), (1, .int a0)] [] (rH mo h s) (pX12_no s a0) := by
  unfold pX12_no
  refine s_aload_n (pc := 0) 0 dX12_no_0 rfl ?_
  refine s_iload_n (pc := 1) 1 dX12_no_1 rfl ?_
  refine rp_78 hh (pc := 2) dX12_no_2 rfl (fun s1 => ?_)
  refine s_iconst (v := 0) (pc := 5) dX12_no_5 (by decide) ?_
  exact s_zretB (b := false) (pc := 6) dX12_no_6 rfl (fun _ _ q => q)
theorem pX12_no_ok (hh : mo + 18 ≤ h.2.1) (s : RS) (a0 : Int32) : ∀ x, pX12_no s a0 = some x → aMet l 0 yX12_no cX12_no 2 (some .boolean) [.ref mo, .int a0] (rH mo h s) (some (.int (b2i x.1))) (rH mo h x.2) := fun x hx => a_meth (ini := false) (y := yX12_no) (by decide +kernel) (fun q => by cases q) (fun _ => Nat.le_of_ble_eq_true rfl) (pX12_no_w hh s a0) x hx _ _ ⟨rfl, rfl⟩
end
section
variable {l : Launch} {n0 S0 : Nat} {mo : Nat} {h : aH}
abbrev MX12_isIn : aM := (cX12_isIn, RX12, 6, (some .boolean), false)
def pX12_isIn (a0 : Int64) (a1 : Int64) (a2 : Int64) : Option Bool :=
  if a0 < a1 then
    some false
  else
    if a2 < a0 then
      some false
    else
      some true
theorem pX12_isIn_w (a0 : Int64) (a1 : Int64) (a2 : Int64) : aS l 0 MX12_isIn n0 S0 (oΦ (fun (x : Bool) => (some (.int (b2i x)), h))) 0 [(0, .long a0), (2, .long a1), (4, .long a2)] [] h (pX12_isIn a0 a1 a2) := by
  unfold pX12_isIn
  refine s_lload_n (pc := 0) 0 dX12_isIn_0 rfl ?_
  refine s_lload_n (pc := 1) 1 dX12_isIn_1 rfl ?_
  refine s_lcmp (pc := 2) dX12_isIn_2 ?_
  refine s_ifL (lg_cmp_lt _ _) (s_if_lt (tgt := 17) (pc := 3) dX12_isIn_3 (by decide) (fun _ => ?_) (fun _ => ?_))
  · refine s_iconst (v := 0) (pc := 17) dX12_isIn_17 (by decide) ?_
    exact s_zretB (b := false) (pc := 18) dX12_isIn_18 rfl (fun _ _ q => q)
  · refine s_lload_n (pc := 6) 0 dX12_isIn_6 rfl ?_
    refine s_lload (pc := 7) 2 dX12_isIn_7 rfl ?_
    refine s_lcmp (pc := 9) dX12_isIn_9 ?_
    refine s_ifL (lg_cmp_gt _ _) (s_if_gt (tgt := 17) (pc := 10) dX12_isIn_10 (by decide) (fun _ => ?_) (fun _ => ?_))
    · refine s_iconst (v := 0) (pc := 17) dX12_isIn_17 (by decide) ?_
      exact s_zretB (b := false) (pc := 18) dX12_isIn_18 rfl (fun _ _ q => q)
    · refine s_iconst (v := 1) (pc := 13) dX12_isIn_13 (by decide) ?_
      refine s_goto (tgt := 18) (pc := 14) dX12_isIn_14 (by decide) ?_
      exact s_zretB (b := true) (pc := 18) dX12_isIn_18 rfl (fun _ _ q => q)
theorem pX12_isIn_ok (a0 : Int64) (a1 : Int64) (a2 : Int64) : ∀ x, pX12_isIn a0 a1 a2 = some x → aMet l 0 yX12_isIn cX12_isIn 6 (some .boolean) [.long a0, .long a1, .long a2] h (some (.int (b2i x))) h := fun x hx => a_meth (ini := false) (y := yX12_isIn) (by decide +kernel) (fun q => by cases q) (fun _ => Nat.le_of_ble_eq_true rfl) (pX12_isIn_w a0 a1 a2) x hx _ _ ⟨rfl, rfl⟩
end
section
variable {l : Launch} {n0 S0 : Nat} {mo : Nat} {h : aH}
abbrev MJ9_abs_067f4 : aM := (cJ9_abs_067f4, RJ9, 2, (some .long), false)
def pJ9_abs_067f4 (a0 : Int64) : Option Int64 :=
  if (0 : Int64) ≤ a0 then
    some a0
  else
    some (-a0)
theorem pJ9_abs_067f4_w (a0 : Int64) : aS l 0 MJ9_abs_067f4 n0 S0 (oΦ (fun (x : Int64) => (some (.long x), h))) 0 [(0, .long a0)] [] h (pJ9_abs_067f4 a0) := by
  unfold pJ9_abs_067f4
  refine s_lload_n (pc := 0) 0 dJ9_abs_067f4_0 rfl ?_
  refine s_lconst (v := 0) (pc := 1) dJ9_abs_067f4_1 (by decide) ?_
  refine s_lcmp (pc := 2) dJ9_abs_067f4_2 ?_
  refine s_ifL (lg_cmp_ge _ _) (s_if_ge (tgt := 11) (pc := 3) dJ9_abs_067f4_3 (by decide) (fun _ => ?_) (fun _ => ?_))
  · refine s_lload_n (pc := 11) 0 dJ9_abs_067f4_11 rfl ?_
    exact s_lret (pc := 12) dJ9_abs_067f4_12 rfl (fun _ _ q => q)
  · refine s_lload_n (pc := 6) 0 dJ9_abs_067f4_6 rfl ?_
    refine s_lneg (pc := 7) dJ9_abs_067f4_7 ?_
    refine s_goto (tgt := 12) (pc := 8) dJ9_abs_067f4_8 (by decide) ?_
    exact s_lret (pc := 12) dJ9_abs_067f4_12 rfl (fun _ _ q => q)
theorem pJ9_abs_067f4_ok (a0 : Int64) : ∀ x, pJ9_abs_067f4 a0 = some x → aMet l 0 yJ9_abs_067f4 cJ9_abs_067f4 2 (some .long) [.long a0] h (some (.long x)) h := fun x hx => a_methF (ini := false) (y := yJ9_abs_067f4) (by decide +kernel) (fun q => by cases q) (fun _ => Nat.le_of_ble_eq_true rfl) (pJ9_abs_067f4_w a0) x hx _ _ ⟨rfl, rfl⟩
end
section
variable {l : Launch} {n0 S0 : Nat} {mo : Nat} {h : aH}
abbrev MX12_fraction : aM := (cX12_fraction, RX12, 11, (some .boolean), false)
def X12_fraction_x9 (l : Launch) (n0 S0 : Nat) (mo : Nat) (h : aH) (v1 : Int64) (v3 : Int64) (s : RS) : Int64 → Option Value → aH → Prop := fun (x : Int64) r h' => aEv l 1 MX12_fraction n0 S0 34 [(0, .ref mo), (1, .long v1), (3, .long v3), (5, .long x)] [] (rH mo h s) r h'
def X12_fraction_b9 (v1 : Int64) (v3 : Int64) (v5 : Int64) (v7 : Int64) (s : RS) : Option ((Int64 × Int64) ⊕ Int64) :=
  if v7 = (0 : Int64) then
    some (.inr v5)
  else
    g_nzL v7 (
    thn (v5 - v5 / v7 * v7) fun x2 =>
    some (.inl (v7, x2)))
theorem X12_fraction_b9_ok (hh : mo + 18 ≤ h.2.1) (v1 : Int64) (v3 : Int64) (v5 : Int64) (v7 : Int64) (s : RS) : aS l 1 MX12_fraction n0 S0 (a_LΦ (X12_fraction_x9 l n0 S0 mo h v1 v3 s) l 1 MX12_fraction n0 S0 9 (fun (q : Int64 × Int64) => [(0, .ref mo), (1, .long v1), (3, .long v3), (5, .long q.1), (7, .long q.2)]) (fun _ => []) (fun (q : Int64 × Int64) => rH mo h s)) 9 [(0, .ref mo), (1, .long v1), (3, .long v3), (5, .long v5), (7, .long v7)] [] (rH mo h s) (X12_fraction_b9 v1 v3 v5 v7 s) := by
  unfold X12_fraction_b9
  refine s_lload (pc := 9) 4 dX12_fraction_9 rfl ?_
  refine s_lconst (v := 0) (pc := 11) dX12_fraction_11 (by decide) ?_
  refine s_lcmp (pc := 12) dX12_fraction_12 ?_
  refine s_ifL (lg_cmp_z _ _) (s_if_eq (tgt := 34) (pc := 13) dX12_fraction_13 (by decide) (fun _ => ?_) (fun _ => ?_))
  · refine s_sub [0, 1, 2, 3] rfl ?_
    exact s_ev (fun _ _ q => q)
  · refine s_lload (pc := 16) 3 dX12_fraction_16 rfl ?_
    refine s_lload (pc := 18) 4 dX12_fraction_18 rfl ?_
    refine s_lrem (pc := 20) dX12_fraction_20 ?_
    refine s_lstoreT (lv' := fun x2 => [(9, .long x2), (0, .ref mo), (1, .long v1), (3, .long v3), (5, .long v5), (7, .long v7)]) (pc := 21) dX12_fraction_21 (by decide) (fun _ => rfl) (fun x2 => ?_)
    refine s_lload (pc := 23) 5 dX12_fraction_23 rfl ?_
    refine s_lstore (lv' := [(5, .long v7), (9, .long x2), (0, .ref mo), (1, .long v1), (3, .long v3), (7, .long v7)]) (pc := 25) dX12_fraction_25 (by decide) rfl ?_
    refine s_lload (pc := 27) 1 dX12_fraction_27 rfl ?_
    refine s_lstore (lv' := [(7, .long x2), (5, .long v7), (9, .long x2), (0, .ref mo), (1, .long v1), (3, .long v3)]) (pc := 29) dX12_fraction_29 (by decide) rfl ?_
    refine s_goto (tgt := 9) (pc := 31) dX12_fraction_31 (by decide) ?_
    refine s_sub [3, 4, 5, 1, 0] rfl ?_
    exact s_ev (fun _ _ q => q)
def pX12_fraction (s : RS) (a0 : Int64) (a1 : Int64) : Option (Bool × RS) :=
  (pJ9_abs_067f4 a0).bind fun x1 =>
  (a_loop (fun (q : Int64 × Int64) => X12_fraction_b9 a0 a1 q.1 q.2 s) FU (x1, a1)).bind fun (t3 : Int64) =>
    g_nzL t3 (
    thn (uL s 2 (a0 / t3)) fun s4 =>
    g_nzL t3 (
    thn (uL s4 3 (a1 / t3)) fun s5 =>
    some (true, s5)))
theorem pX12_fraction_w (hh : mo + 18 ≤ h.2.1) (s : RS) (a0 : Int64) (a1 : Int64) : aS l 1 MX12_fraction n0 S0 (oΦ (fun (x : Bool × RS) => (some (.int (b2i x.1)), rH mo h x.2))) 0 [(0, .ref mo), (1, .long a0), (3, .long a1)] [] (rH mo h s) (pX12_fraction s a0 a1) := by
  unfold pX12_fraction
  refine s_lload_n (pc := 0) 1 dX12_fraction_0 rfl ?_
  refine s_callS (M := MX12_fraction) (As := [.long a0]) (st := []) (Ψ := fun (x : Int64) => (some (.long x), rH mo h s)) cs_X12_84 (by decide) (pc := 1) dX12_fraction_1 rfl (Nat.le_of_ble_eq_true rfl) (fun x hx => pJ9_abs_067f4_ok a0 x hx) rfl (fun x1 _ => ?_)
  refine s_lstore (lv' := [(5, .long x1), (0, .ref mo), (1, .long a0), (3, .long a1)]) (pc := 4) dX12_fraction_4 (by decide) rfl ?_
  refine s_lload_n (pc := 6) 3 dX12_fraction_6 rfl ?_
  refine s_lstore (lv' := [(7, .long a1), (5, .long x1), (0, .ref mo), (1, .long a0), (3, .long a1)]) (pc := 7) dX12_fraction_7 (by decide) rfl ?_
  refine s_bind (Ψ := X12_fraction_x9 l n0 S0 mo h a0 a1 s) ?_ ?_
  · refine s_sub [2, 3, 4, 1, 0] rfl ?_
    exact s_loop (lvf := fun (q : Int64 × Int64) => [(0, .ref mo), (1, .long a0), (3, .long a1), (5, .long q.1), (7, .long q.2)]) (stf := fun _ => []) (hf := fun (q : Int64 × Int64) => rH mo h s) (fun q => X12_fraction_b9_ok hh a0 a1 q.1 q.2 s) FU (x1, a1)
  · intro t3 z r h' hz hr
    refine (?_ : aS l 1 MX12_fraction n0 S0 (oΦ (fun (x : Bool × RS) => (some (.int (b2i x.1)), rH mo h x.2))) 34 [(0, .ref mo), (1, .long a0), (3, .long a1), (5, .long t3)] [] (rH mo h s) _) z hz r h' hr
    refine s_aload_n (pc := 34) 0 dX12_fraction_34 rfl ?_
    refine s_lload_n (pc := 35) 1 dX12_fraction_35 rfl ?_
    refine s_lload (pc := 36) 3 dX12_fraction_36 rfl ?_
    refine s_ldiv (pc := 38) dX12_fraction_38 ?_
    refine rp_81 hh (pc := 39) dX12_fraction_39 rfl (fun s4 => ?_)
    refine s_aload_n (pc := 42) 0 dX12_fraction_42 rfl ?_
    refine s_lload_n (pc := 43) 2 dX12_fraction_43 rfl ?_
    refine s_lload (pc := 44) 3 dX12_fraction_44 rfl ?_
    refine s_ldiv (pc := 46) dX12_fraction_46 ?_
    refine rp_7 hh (pc := 47) dX12_fraction_47 rfl (fun s5 => ?_)
    refine s_iconst (v := 1) (pc := 50) dX12_fraction_50 (by decide) ?_
    exact s_zretB (b := true) (pc := 51) dX12_fraction_51 rfl (fun _ _ q => q)
theorem pX12_fraction_ok (hh : mo + 18 ≤ h.2.1) (s : RS) (a0 : Int64) (a1 : Int64) : ∀ x, pX12_fraction s a0 a1 = some x → aMet l 1 yX12_fraction cX12_fraction 11 (some .boolean) [.ref mo, .long a0, .long a1] (rH mo h s) (some (.int (b2i x.1))) (rH mo h x.2) := fun x hx => a_meth (ini := false) (y := yX12_fraction) (by decide +kernel) (fun q => by cases q) (fun _ => Nat.le_of_ble_eq_true rfl) (pX12_fraction_w hh s a0 a1) x hx _ _ ⟨rfl, rfl⟩
end
section
variable {l : Launch} {n0 S0 : Nat} {mo : Nat} {h : aH}
abbrev MX12_cut : aM := (cX12_cut, RX12, 3, (some .long), false)
def pX12_cut (a0 : Int32) (a1 : Int64) : Option Int64 :=
  if a0 = 0 then
    some a1.toInt32.toInt8.toInt32.toInt64
  else
    if a0 = (1 : Int32) then
      some a1.toInt32.toInt16.toInt32.toInt64
    else
      if a0 = (2 : Int32) then
        some a1.toInt32.toInt64
      else
        some a1
theorem pX12_cut_w (a0 : Int32) (a1 : Int64) : aS l 0 MX12_cut n0 S0 (oΦ (fun (x : Int64) => (some (.long x), h))) 0 [(0, .int a0), (1, .long a1)] [] h (pX12_cut a0 a1) := by
  unfold pX12_cut
  refine s_iload_n (pc := 0) 0 dX12_cut_0 rfl ?_
  refine s_if_ne (tgt := 11) (pc := 1) dX12_cut_1 (by decide) (fun _ => ?_) (fun _ => ?_)
  · refine s_lload_n (pc := 4) 1 dX12_cut_4 rfl ?_
    refine s_l2i (pc := 5) dX12_cut_5 ?_
    refine s_i2b (pc := 6) dX12_cut_6 ?_
    refine s_i2l (pc := 7) dX12_cut_7 ?_
    refine s_goto (tgt := 35) (pc := 8) dX12_cut_8 (by decide) ?_
    exact s_lret (pc := 35) dX12_cut_35 rfl (fun _ _ q => q)
  · refine s_iload_n (pc := 11) 0 dX12_cut_11 rfl ?_
    refine s_iconst (v := 1) (pc := 12) dX12_cut_12 (by decide) ?_
    refine s_icmp_ne (tgt := 23) (pc := 13) dX12_cut_13 (by decide) (fun _ => ?_) (fun _ => ?_)
    · refine s_lload_n (pc := 16) 1 dX12_cut_16 rfl ?_
      refine s_l2i (pc := 17) dX12_cut_17 ?_
      refine s_i2s (pc := 18) dX12_cut_18 ?_
      refine s_i2l (pc := 19) dX12_cut_19 ?_
      refine s_goto (tgt := 35) (pc := 20) dX12_cut_20 (by decide) ?_
      exact s_lret (pc := 35) dX12_cut_35 rfl (fun _ _ q => q)
    · refine s_iload_n (pc := 23) 0 dX12_cut_23 rfl ?_
      refine s_iconst (v := 2) (pc := 24) dX12_cut_24 (by decide) ?_
      refine s_icmp_ne (tgt := 34) (pc := 25) dX12_cut_25 (by decide) (fun _ => ?_) (fun _ => ?_)
      · refine s_lload_n (pc := 28) 1 dX12_cut_28 rfl ?_
        refine s_l2i (pc := 29) dX12_cut_29 ?_
        refine s_i2l (pc := 30) dX12_cut_30 ?_
        refine s_goto (tgt := 35) (pc := 31) dX12_cut_31 (by decide) ?_
        exact s_lret (pc := 35) dX12_cut_35 rfl (fun _ _ q => q)
      · refine s_lload_n (pc := 34) 1 dX12_cut_34 rfl ?_
        exact s_lret (pc := 35) dX12_cut_35 rfl (fun _ _ q => q)
theorem pX12_cut_ok (a0 : Int32) (a1 : Int64) : ∀ x, pX12_cut a0 a1 = some x → aMet l 0 yX12_cut cX12_cut 3 (some .long) [.int a0, .long a1] h (some (.long x)) h := fun x hx => a_meth (ini := false) (y := yX12_cut) (by decide +kernel) (fun q => by cases q) (fun _ => Nat.le_of_ble_eq_true rfl) (pX12_cut_w a0 a1) x hx _ _ ⟨rfl, rfl⟩
end
section
variable {l : Launch} {n0 S0 : Nat} {mo : Nat} {h : aH}
abbrev MX12_tray : aM := (cX12_tray, RX12, 5, (some .boolean), false)
def X12_tray_j28 (s : RS) : Option (Bool × RS) :=
  (pX12_no s (1 : Int32)).bind fun x3 =>
  some (x3.1, x3.2)
theorem X12_tray_j28_ok (hh : mo + 18 ≤ h.2.1) (s : RS) : aS l 1 MX12_tray n0 S0 (oΦ (fun (x : Bool × RS) => (some (.int (b2i x.1)), rH mo h x.2))) 28 [(0, .ref mo)] [] (rH mo h s) (X12_tray_j28 s) := by
  unfold X12_tray_j28
  refine s_aload_n (pc := 28) 0 dX12_tray_28 rfl ?_
  refine s_iconst (v := 1) (pc := 29) dX12_tray_29 (by decide) ?_
  refine s_callV (M := MX12_tray) (As := [.int 1]) (st := []) (Ψ := fun (x : Bool × RS) => (some (.int (b2i x.1)), rH mo h x.2)) cv_X12_90 (by decide) (pc := 30) dX12_tray_30 r_0 (r_lt (k := 0) hh (by decide)) rfl (Nat.le_of_ble_eq_true rfl) (fun x hx => pX12_no_ok hh s (1 : Int32) x hx) rfl (fun x3 _ => ?_)
  exact s_zretB (b := x3.1) (pc := 33) dX12_tray_33 rfl (fun _ _ q => q)
def X12_tray_x74 (l : Launch) (n0 S0 : Nat) (mo : Nat) (h : aH) (v1 : Int32) (v3 : Int32) : RS → Option Value → aH → Prop := fun (x : RS) r h' => aEv l 1 MX12_tray n0 S0 99 [] [] (rH mo h x) r h'
def X12_tray_b74 (v1 : Int32) (v3 : Int32) (v4 : Int32) (s : RS) : Option ((Int32 × RS) ⊕ RS) :=
  if v3 ≤ v4 then
    some (.inr s)
  else
    g_in (((60 : Int32) * v1) + v4) 240 (thn (uB s 2 (vp_updL (s.2.2.2 2) (((60 : Int32) * v1) + v4).toNatClampNeg (0 : Int64))) fun s6 =>
    thn (v4 + 1) fun x7 =>
    some (.inl (x7, s6)))
theorem X12_tray_b74_ok (hh : mo + 18 ≤ h.2.1) (v1 : Int32) (v3 : Int32) (v4 : Int32) (s : RS) : aS l 1 MX12_tray n0 S0 (a_LΦ (X12_tray_x74 l n0 S0 mo h v1 v3) l 1 MX12_tray n0 S0 74 (fun (q : Int32 × RS) => [(0, .ref mo), (1, .int v1), (3, .int v3), (4, .int q.1)]) (fun _ => []) (fun (q : Int32 × RS) => rH mo h q.2)) 74 [(0, .ref mo), (1, .int v1), (3, .int v3), (4, .int v4)] [] (rH mo h s) (X12_tray_b74 v1 v3 v4 s) := by
  unfold X12_tray_b74
  refine s_iload (pc := 74) 3 dX12_tray_74 rfl ?_
  refine s_iload_n (pc := 76) 2 dX12_tray_76 rfl ?_
  refine s_icmp_ge (tgt := 99) (pc := 77) dX12_tray_77 (by decide) (fun _ => ?_) (fun _ => ?_)
  · refine s_sub [] rfl ?_
    exact s_ev (fun _ _ q => q)
  · refine s_aload_n (pc := 80) 0 dX12_tray_80 rfl ?_
    refine rg_20 hh (pc := 81) dX12_tray_81 rfl ?_
    refine s_bipush (v := 60) (pc := 84) dX12_tray_84 (by decide) ?_
    refine s_iload_n (pc := 86) 1 dX12_tray_86 rfl ?_
    refine s_imul (pc := 87) dX12_tray_87 ?_
    refine s_iload (pc := 88) 3 dX12_tray_88 rfl ?_
    refine s_iadd (pc := 90) dX12_tray_90 ?_
    refine s_lconst (v := 0) (pc := 91) dX12_tray_91 (by decide) ?_
    refine rs_2 hh (pc := 92) dX12_tray_92 (fun s6 => ?_)
    refine s_iincT (pc := 93) 3 (lv' := fun x7 => [(4, .int x7), (0, .ref mo), (1, .int v1), (3, .int v3)]) dX12_tray_93 rfl rfl (by decide) (fun _ => rfl) (fun x7 => ?_)
    refine s_goto (tgt := 74) (pc := 96) dX12_tray_96 (by decide) ?_
    refine s_sub [1, 2, 3, 0] rfl ?_
    exact s_ev (fun _ _ q => q)
def pX12_tray (s : RS) (a0 : Int32) (a1 : Int32) (a2 : Int32) : Option (Bool × RS) :=
  thn (uI s 1 (0 : Int32)) fun s1 =>
  thn (uI s1 0 (0 : Int32)) fun s2 =>
  if a0 < 0 then
    X12_tray_j28 s2
  else
    if (4 : Int32) ≤ a0 then
      X12_tray_j28 s2
    else
      if a1 < 0 then
        X12_tray_j28 s2
      else
        if a1 ≤ (3 : Int32) then
          if a2 ≤ (60 : Int32) then
            if 0 ≤ a2 then
              g_in a0 4 (thn (uA s2 0 (upd (s2.2.2.1 0) a0.toNatClampNeg a1)) fun s4 =>
              g_in a0 4 (thn (uA s4 1 (upd (s4.2.2.1 1) a0.toNatClampNeg a2)) fun s5 =>
              (a_loop (fun (q : Int32 × RS) => X12_tray_b74 a0 a2 q.1 q.2) FU ((0 : Int32), s5)).bind fun (t8 : RS) =>
                some (true, t8)))
            else
              (pX12_no s2 (6 : Int32)).bind fun x9 =>
              some (x9.1, x9.2)
          else
            (pX12_no s2 (5 : Int32)).bind fun x10 =>
            some (x10.1, x10.2)
        else
          X12_tray_j28 s2
theorem pX12_tray_w (hh : mo + 18 ≤ h.2.1) (s : RS) (a0 : Int32) (a1 : Int32) (a2 : Int32) : aS l 1 MX12_tray n0 S0 (oΦ (fun (x : Bool × RS) => (some (.int (b2i x.1)), rH mo h x.2))) 0 [(0, .ref mo), (1, .int a0), (2, .int a1), (3, .int a2)] [] (rH mo h s) (pX12_tray s a0 a1 a2) := by
  unfold pX12_tray
  refine s_aload_n (pc := 0) 0 dX12_tray_0 rfl ?_
  refine s_iconst (v := 0) (pc := 1) dX12_tray_1 (by decide) ?_
  refine rp_75 hh (pc := 2) dX12_tray_2 rfl (fun s1 => ?_)
  refine s_aload_n (pc := 5) 0 dX12_tray_5 rfl ?_
  refine s_iconst (v := 0) (pc := 6) dX12_tray_6 (by decide) ?_
  refine rp_78 hh (pc := 7) dX12_tray_7 rfl (fun s2 => ?_)
  refine s_iload_n (pc := 10) 1 dX12_tray_10 rfl ?_
  refine s_if_lt (tgt := 28) (pc := 11) dX12_tray_11 (by decide) (fun _ => ?_) (fun _ => ?_)
  · refine s_sub [0] rfl ?_
    exact X12_tray_j28_ok hh s2
  · refine s_iload_n (pc := 14) 1 dX12_tray_14 rfl ?_
    refine s_iconst (v := 4) (pc := 15) dX12_tray_15 (by decide) ?_
    refine s_icmp_ge (tgt := 28) (pc := 16) dX12_tray_16 (by decide) (fun _ => ?_) (fun _ => ?_)
    · refine s_sub [0] rfl ?_
      exact X12_tray_j28_ok hh s2
    · refine s_iload_n (pc := 19) 2 dX12_tray_19 rfl ?_
      refine s_if_lt (tgt := 28) (pc := 20) dX12_tray_20 (by decide) (fun _ => ?_) (fun _ => ?_)
      · refine s_sub [0] rfl ?_
        exact X12_tray_j28_ok hh s2
      · refine s_iload_n (pc := 23) 2 dX12_tray_23 rfl ?_
        refine s_iconst (v := 3) (pc := 24) dX12_tray_24 (by decide) ?_
        refine s_icmp_le (tgt := 34) (pc := 25) dX12_tray_25 (by decide) (fun _ => ?_) (fun _ => ?_)
        · refine s_iload_n (pc := 34) 3 dX12_tray_34 rfl ?_
          refine s_bipush (v := 60) (pc := 35) dX12_tray_35 (by decide) ?_
          refine s_icmp_le (tgt := 46) (pc := 37) dX12_tray_37 (by decide) (fun _ => ?_) (fun _ => ?_)
          · refine s_iload_n (pc := 46) 3 dX12_tray_46 rfl ?_
            refine s_if_ge (tgt := 57) (pc := 47) dX12_tray_47 (by decide) (fun _ => ?_) (fun _ => ?_)
            · refine s_aload_n (pc := 57) 0 dX12_tray_57 rfl ?_
              refine rg_13 hh (pc := 58) dX12_tray_58 rfl ?_
              refine s_iload_n (pc := 61) 1 dX12_tray_61 rfl ?_
              refine s_iload_n (pc := 62) 2 dX12_tray_62 rfl ?_
              refine rs_0 hh (pc := 63) dX12_tray_63 (fun s4 => ?_)
              refine s_aload_n (pc := 64) 0 dX12_tray_64 rfl ?_
              refine rg_17 hh (pc := 65) dX12_tray_65 rfl ?_
              refine s_iload_n (pc := 68) 1 dX12_tray_68 rfl ?_
              refine s_iload_n (pc := 69) 3 dX12_tray_69 rfl ?_
              refine rs_1 hh (pc := 70) dX12_tray_70 (fun s5 => ?_)
              refine s_iconst (v := 0) (pc := 71) dX12_tray_71 (by decide) ?_
              refine s_istore (lv' := [(4, .int 0), (0, .ref mo), (1, .int a0), (2, .int a1), (3, .int a2)]) (pc := 72) dX12_tray_72 (by decide) rfl ?_
              refine s_bind (Ψ := X12_tray_x74 l n0 S0 mo h a0 a2) ?_ ?_
              · refine s_sub [1, 2, 4, 0] rfl ?_
                exact s_loop (lvf := fun (q : Int32 × RS) => [(0, .ref mo), (1, .int a0), (3, .int a2), (4, .int q.1)]) (stf := fun _ => []) (hf := fun (q : Int32 × RS) => rH mo h q.2) (fun q => X12_tray_b74_ok hh a0 a2 q.1 q.2) FU ((0 : Int32), s5)
              · intro t8 z r h' hz hr
                refine (?_ : aS l 1 MX12_tray n0 S0 (oΦ (fun (x : Bool × RS) => (some (.int (b2i x.1)), rH mo h x.2))) 99 [] [] (rH mo h t8) _) z hz r h' hr
                refine s_iconst (v := 1) (pc := 99) dX12_tray_99 (by decide) ?_
                exact s_zretB (b := true) (pc := 100) dX12_tray_100 rfl (fun _ _ q => q)
            · refine s_aload_n (pc := 50) 0 dX12_tray_50 rfl ?_
              refine s_bipush (v := 6) (pc := 51) dX12_tray_51 (by decide) ?_
              refine s_callV (M := MX12_tray) (As := [.int 6]) (st := []) (Ψ := fun (x : Bool × RS) => (some (.int (b2i x.1)), rH mo h x.2)) cv_X12_90 (by decide) (pc := 53) dX12_tray_53 r_0 (r_lt (k := 0) hh (by decide)) rfl (Nat.le_of_ble_eq_true rfl) (fun x hx => pX12_no_ok hh s2 (6 : Int32) x hx) rfl (fun x9 _ => ?_)
              exact s_zretB (b := x9.1) (pc := 56) dX12_tray_56 rfl (fun _ _ q => q)
          · refine s_aload_n (pc := 40) 0 dX12_tray_40 rfl ?_
            refine s_iconst (v := 5) (pc := 41) dX12_tray_41 (by decide) ?_
            refine s_callV (M := MX12_tray) (As := [.int 5]) (st := []) (Ψ := fun (x : Bool × RS) => (some (.int (b2i x.1)), rH mo h x.2)) cv_X12_90 (by decide) (pc := 42) dX12_tray_42 r_0 (r_lt (k := 0) hh (by decide)) rfl (Nat.le_of_ble_eq_true rfl) (fun x hx => pX12_no_ok hh s2 (5 : Int32) x hx) rfl (fun x10 _ => ?_)
            exact s_zretB (b := x10.1) (pc := 45) dX12_tray_45 rfl (fun _ _ q => q)
        · refine s_sub [0] rfl ?_
          exact X12_tray_j28_ok hh s2
theorem pX12_tray_ok (hh : mo + 18 ≤ h.2.1) (s : RS) (a0 : Int32) (a1 : Int32) (a2 : Int32) : ∀ x, pX12_tray s a0 a1 a2 = some x → aMet l 1 yX12_tray cX12_tray 5 (some .boolean) [.ref mo, .int a0, .int a1, .int a2] (rH mo h s) (some (.int (b2i x.1))) (rH mo h x.2) := fun x hx => a_meth (ini := false) (y := yX12_tray) (by decide +kernel) (fun q => by cases q) (fun _ => Nat.le_of_ble_eq_true rfl) (pX12_tray_w hh s a0 a1 a2) x hx _ _ ⟨rfl, rfl⟩
end
section
variable {l : Launch} {n0 S0 : Nat} {mo : Nat} {h : aH}
abbrev MX12_trayed : aM := (cX12_trayed, RX12, 2, (some .int), false)
def pX12_trayed (s : RS) (a0 : Int32) : Option Int32 :=
  if a0 < 0 then
    some (1 : Int32)
  else
    if a0 < (4 : Int32) then
      g_in a0 4 (
      if 0 ≤ (s.2.2.1 1 a0.toNatClampNeg) then
        some (0 : Int32)
      else
        some (3 : Int32))
    else
      some (1 : Int32)
theorem pX12_trayed_w (hh : mo + 18 ≤ h.2.1) (s : RS) (a0 : Int32) : aS l 0 MX12_trayed n0 S0 (oΦ (fun (x : Int32) => (some (.int x), rH mo h s))) 0 [(0, .ref mo), (1, .int a0)] [] (rH mo h s) (pX12_trayed s a0) := by
  unfold pX12_trayed
  refine s_iload_n (pc := 0) 1 dX12_trayed_0 rfl ?_
  refine s_if_lt (tgt := 9) (pc := 1) dX12_trayed_1 (by decide) (fun _ => ?_) (fun _ => ?_)
  · refine s_iconst (v := 1) (pc := 9) dX12_trayed_9 (by decide) ?_
    refine s_goto (tgt := 27) (pc := 10) dX12_trayed_10 (by decide) ?_
    exact s_iret (pc := 27) dX12_trayed_27 rfl (fun _ _ q => q)
  · refine s_iload_n (pc := 4) 1 dX12_trayed_4 rfl ?_
    refine s_iconst (v := 4) (pc := 5) dX12_trayed_5 (by decide) ?_
    refine s_icmp_lt (tgt := 13) (pc := 6) dX12_trayed_6 (by decide) (fun _ => ?_) (fun _ => ?_)
    · refine s_aload_n (pc := 13) 0 dX12_trayed_13 rfl ?_
      refine rg_17 hh (pc := 14) dX12_trayed_14 rfl ?_
      refine s_iload_n (pc := 17) 1 dX12_trayed_17 rfl ?_
      refine rl_1 hh (pc := 18) dX12_trayed_18 ?_
      refine s_if_ge (tgt := 26) (pc := 19) dX12_trayed_19 (by decide) (fun _ => ?_) (fun _ => ?_)
      · refine s_iconst (v := 0) (pc := 26) dX12_trayed_26 (by decide) ?_
        exact s_iret (pc := 27) dX12_trayed_27 rfl (fun _ _ q => q)
      · refine s_iconst (v := 3) (pc := 22) dX12_trayed_22 (by decide) ?_
        refine s_goto (tgt := 27) (pc := 23) dX12_trayed_23 (by decide) ?_
        exact s_iret (pc := 27) dX12_trayed_27 rfl (fun _ _ q => q)
    · refine s_iconst (v := 1) (pc := 9) dX12_trayed_9 (by decide) ?_
      refine s_goto (tgt := 27) (pc := 10) dX12_trayed_10 (by decide) ?_
      exact s_iret (pc := 27) dX12_trayed_27 rfl (fun _ _ q => q)
theorem pX12_trayed_ok (hh : mo + 18 ≤ h.2.1) (s : RS) (a0 : Int32) : ∀ x, pX12_trayed s a0 = some x → aMet l 0 yX12_trayed cX12_trayed 2 (some .int) [.ref mo, .int a0] (rH mo h s) (some (.int x)) (rH mo h s) := fun x hx => a_meth (ini := false) (y := yX12_trayed) (by decide +kernel) (fun q => by cases q) (fun _ => Nat.le_of_ble_eq_true rfl) (pX12_trayed_w hh s a0) x hx _ _ ⟨rfl, rfl⟩
end
section
variable {l : Launch} {n0 S0 : Nat} {mo : Nat} {h : aH}
abbrev MX12_placed : aM := (cX12_placed, RX12, 4, (some .int), false)
def pX12_placed (s : RS) (a0 : Int32) (a1 : Int32) : Option Int32 :=
  (pX12_trayed s a0).bind fun x1 =>
  if x1 ≤ 0 then
    if a1 < 0 then
      some (4 : Int32)
    else
      g_in a0 4 (
      if a1 < (s.2.2.1 1 a0.toNatClampNeg) then
        some (0 : Int32)
      else
        some (4 : Int32))
  else
    some x1
theorem pX12_placed_w (hh : mo + 18 ≤ h.2.1) (s : RS) (a0 : Int32) (a1 : Int32) : aS l 1 MX12_placed n0 S0 (oΦ (fun (x : Int32) => (some (.int x), rH mo h s))) 0 [(0, .ref mo), (1, .int a0), (2, .int a1)] [] (rH mo h s) (pX12_placed s a0 a1) := by
  unfold pX12_placed
  refine s_aload_n (pc := 0) 0 dX12_placed_0 rfl ?_
  refine s_iload_n (pc := 1) 1 dX12_placed_1 rfl ?_
  refine s_callV (M := MX12_placed) (As := [.int a0]) (st := []) (Ψ := fun (x : Int32) => (some (.int x), rH mo h s)) cv_X12_94 (by decide) (pc := 2) dX12_placed_2 r_0 (r_lt (k := 0) hh (by decide)) rfl (Nat.le_of_ble_eq_true rfl) (fun x hx => pX12_trayed_ok hh s a0 x hx) rfl (fun x1 _ => ?_)
  refine s_istore_n (lv' := [(3, .int x1), (0, .ref mo), (1, .int a0), (2, .int a1)]) (pc := 5) dX12_placed_5 (by decide) rfl ?_
  refine s_iload_n (pc := 6) 0 dX12_placed_6 rfl ?_
  refine s_if_le (tgt := 14) (pc := 7) dX12_placed_7 (by decide) (fun _ => ?_) (fun _ => ?_)
  · refine s_iload_n (pc := 14) 3 dX12_placed_14 rfl ?_
    refine s_if_lt (tgt := 28) (pc := 15) dX12_placed_15 (by decide) (fun _ => ?_) (fun _ => ?_)
    · refine s_iconst (v := 4) (pc := 28) dX12_placed_28 (by decide) ?_
      refine s_goto (tgt := 33) (pc := 29) dX12_placed_29 (by decide) ?_
      exact s_iret (pc := 33) dX12_placed_33 rfl (fun _ _ q => q)
    · refine s_iload_n (pc := 18) 3 dX12_placed_18 rfl ?_
      refine s_aload_n (pc := 19) 1 dX12_placed_19 rfl ?_
      refine rg_17 hh (pc := 20) dX12_placed_20 rfl ?_
      refine s_iload_n (pc := 23) 2 dX12_placed_23 rfl ?_
      refine rl_1 hh (pc := 24) dX12_placed_24 ?_
      refine s_icmp_lt (tgt := 32) (pc := 25) dX12_placed_25 (by decide) (fun _ => ?_) (fun _ => ?_)
      · refine s_iconst (v := 0) (pc := 32) dX12_placed_32 (by decide) ?_
        exact s_iret (pc := 33) dX12_placed_33 rfl (fun _ _ q => q)
      · refine s_iconst (v := 4) (pc := 28) dX12_placed_28 (by decide) ?_
        refine s_goto (tgt := 33) (pc := 29) dX12_placed_29 (by decide) ?_
        exact s_iret (pc := 33) dX12_placed_33 rfl (fun _ _ q => q)
  · refine s_iload_n (pc := 10) 0 dX12_placed_10 rfl ?_
    refine s_goto (tgt := 33) (pc := 11) dX12_placed_11 (by decide) ?_
    exact s_iret (pc := 33) dX12_placed_33 rfl (fun _ _ q => q)
theorem pX12_placed_ok (hh : mo + 18 ≤ h.2.1) (s : RS) (a0 : Int32) (a1 : Int32) : ∀ x, pX12_placed s a0 a1 = some x → aMet l 1 yX12_placed cX12_placed 4 (some .int) [.ref mo, .int a0, .int a1] (rH mo h s) (some (.int x)) (rH mo h s) := fun x hx => a_meth (ini := false) (y := yX12_placed) (by decide +kernel) (fun q => by cases q) (fun _ => Nat.le_of_ble_eq_true rfl) (pX12_placed_w hh s a0 a1) x hx _ _ ⟨rfl, rfl⟩
end
section
variable {l : Launch} {n0 S0 : Nat} {mo : Nat} {h : aH}
abbrev MX12_write : aM := (cX12_write, RX12, 5, (some .boolean), false)
def pX12_write (s : RS) (a0 : Int32) (a1 : Int32) (a2 : Int64) : Option (Bool × RS) :=
  thn (uI s 1 (0 : Int32)) fun s1 =>
  (pX12_placed s1 a0 a1).bind fun x2 =>
  thn (uI s1 0 x2) fun s3 =>
  if (s3.1 0) ≤ 0 then
    g_in a0 4 (
    (pX12_cut (s3.2.2.1 0 a0.toNatClampNeg) a2).bind fun x4 =>
    g_in (((60 : Int32) * a0) + a1) 240 (thn (uB s3 2 (vp_updL (s3.2.2.2 2) (((60 : Int32) * a0) + a1).toNatClampNeg x4)) fun s5 =>
    some (true, s5)))
  else
    some (false, s3)
theorem pX12_write_w (hh : mo + 18 ≤ h.2.1) (s : RS) (a0 : Int32) (a1 : Int32) (a2 : Int64) : aS l 2 MX12_write n0 S0 (oΦ (fun (x : Bool × RS) => (some (.int (b2i x.1)), rH mo h x.2))) 0 [(0, .ref mo), (1, .int a0), (2, .int a1), (3, .long a2)] [] (rH mo h s) (pX12_write s a0 a1 a2) := by
  unfold pX12_write
  refine s_aload_n (pc := 0) 0 dX12_write_0 rfl ?_
  refine s_iconst (v := 0) (pc := 1) dX12_write_1 (by decide) ?_
  refine rp_75 hh (pc := 2) dX12_write_2 rfl (fun s1 => ?_)
  refine s_aload_n (pc := 5) 0 dX12_write_5 rfl ?_
  refine s_aload_n (pc := 6) 0 dX12_write_6 rfl ?_
  refine s_iload_n (pc := 7) 1 dX12_write_7 rfl ?_
  refine s_iload_n (pc := 8) 2 dX12_write_8 rfl ?_
  refine s_callV (M := MX12_write) (As := [.int a0, .int a1]) (st := [.ref mo]) (Ψ := fun (x : Int32) => (some (.int x), rH mo h s1)) cv_X12_98 (by decide) (pc := 9) dX12_write_9 r_0 (r_lt (k := 0) hh (by decide)) rfl (Nat.le_of_ble_eq_true rfl) (fun x hx => pX12_placed_ok hh s1 a0 a1 x hx) rfl (fun x2 _ => ?_)
  refine rp_78 hh (pc := 12) dX12_write_12 rfl (fun s3 => ?_)
  refine s_aload_n (pc := 15) 0 dX12_write_15 rfl ?_
  refine rg_78 hh (pc := 16) dX12_write_16 rfl ?_
  refine s_if_le (tgt := 24) (pc := 19) dX12_write_19 (by decide) (fun _ => ?_) (fun _ => ?_)
  · refine s_aload_n (pc := 24) 0 dX12_write_24 rfl ?_
    refine rg_20 hh (pc := 25) dX12_write_25 rfl ?_
    refine s_bipush (v := 60) (pc := 28) dX12_write_28 (by decide) ?_
    refine s_iload_n (pc := 30) 1 dX12_write_30 rfl ?_
    refine s_imul (pc := 31) dX12_write_31 ?_
    refine s_iload_n (pc := 32) 2 dX12_write_32 rfl ?_
    refine s_iadd (pc := 33) dX12_write_33 ?_
    refine s_aload_n (pc := 34) 0 dX12_write_34 rfl ?_
    refine rg_13 hh (pc := 35) dX12_write_35 rfl ?_
    refine s_iload_n (pc := 38) 1 dX12_write_38 rfl ?_
    refine rl_0 hh (pc := 39) dX12_write_39 ?_
    refine s_lload_n (pc := 40) 3 dX12_write_40 rfl ?_
    refine s_callS (M := MX12_write) (As := [.int (s3.2.2.1 0 a0.toNatClampNeg), .long a2]) (st := [.int (((60 : Int32) * a0) + a1), .ref (mo + 3)]) (Ψ := fun (x : Int64) => (some (.long x), rH mo h s3)) cs_X12_102 (by decide) (pc := 41) dX12_write_41 rfl (Nat.le_of_ble_eq_true rfl) (fun x hx => pX12_cut_ok (s3.2.2.1 0 a0.toNatClampNeg) a2 x hx) rfl (fun x4 _ => ?_)
    refine rs_2 hh (pc := 44) dX12_write_44 (fun s5 => ?_)
    refine s_iconst (v := 1) (pc := 45) dX12_write_45 (by decide) ?_
    exact s_zretB (b := true) (pc := 46) dX12_write_46 rfl (fun _ _ q => q)
  · refine s_iconst (v := 0) (pc := 22) dX12_write_22 (by decide) ?_
    exact s_zretB (b := false) (pc := 23) dX12_write_23 rfl (fun _ _ q => q)
theorem pX12_write_ok (hh : mo + 18 ≤ h.2.1) (s : RS) (a0 : Int32) (a1 : Int32) (a2 : Int64) : ∀ x, pX12_write s a0 a1 a2 = some x → aMet l 2 yX12_write cX12_write 5 (some .boolean) [.ref mo, .int a0, .int a1, .long a2] (rH mo h s) (some (.int (b2i x.1))) (rH mo h x.2) := fun x hx => a_meth (ini := false) (y := yX12_write) (by decide +kernel) (fun q => by cases q) (fun _ => Nat.le_of_ble_eq_true rfl) (pX12_write_w hh s a0 a1 a2) x hx _ _ ⟨rfl, rfl⟩
end
section
variable {l : Launch} {n0 S0 : Nat} {mo : Nat} {h : aH}
abbrev MX12_read : aM := (cX12_read, RX12, 3, (some .long), false)
def pX12_read (s : RS) (a0 : Int32) (a1 : Int32) : Option (Int64 × RS) :=
  thn (uI s 1 (0 : Int32)) fun s1 =>
  (pX12_placed s1 a0 a1).bind fun x2 =>
  thn (uI s1 0 x2) fun s3 =>
  if (s3.1 0) ≤ 0 then
    g_in (((60 : Int32) * a0) + a1) 240 (
    some ((s3.2.2.2 2 (((60 : Int32) * a0) + a1).toNatClampNeg), s3))
  else
    some ((-1 : Int64), s3)
theorem pX12_read_w (hh : mo + 18 ≤ h.2.1) (s : RS) (a0 : Int32) (a1 : Int32) : aS l 2 MX12_read n0 S0 (oΦ (fun (x : Int64 × RS) => (some (.long x.1), rH mo h x.2))) 0 [(0, .ref mo), (1, .int a0), (2, .int a1)] [] (rH mo h s) (pX12_read s a0 a1) := by
  unfold pX12_read
  refine s_aload_n (pc := 0) 0 dX12_read_0 rfl ?_
  refine s_iconst (v := 0) (pc := 1) dX12_read_1 (by decide) ?_
  refine rp_75 hh (pc := 2) dX12_read_2 rfl (fun s1 => ?_)
  refine s_aload_n (pc := 5) 0 dX12_read_5 rfl ?_
  refine s_aload_n (pc := 6) 0 dX12_read_6 rfl ?_
  refine s_iload_n (pc := 7) 1 dX12_read_7 rfl ?_
  refine s_iload_n (pc := 8) 2 dX12_read_8 rfl ?_
  refine s_callV (M := MX12_read) (As := [.int a0, .int a1]) (st := [.ref mo]) (Ψ := fun (x : Int32) => (some (.int x), rH mo h s1)) cv_X12_98 (by decide) (pc := 9) dX12_read_9 r_0 (r_lt (k := 0) hh (by decide)) rfl (Nat.le_of_ble_eq_true rfl) (fun x hx => pX12_placed_ok hh s1 a0 a1 x hx) rfl (fun x2 _ => ?_)
  refine rp_78 hh (pc := 12) dX12_read_12 rfl (fun s3 => ?_)
  refine s_aload_n (pc := 15) 0 dX12_read_15 rfl ?_
  refine rg_78 hh (pc := 16) dX12_read_16 rfl ?_
  refine s_if_le (tgt := 28) (pc := 19) dX12_read_19 (by decide) (fun _ => ?_) (fun _ => ?_)
  · refine s_aload_n (pc := 28) 0 dX12_read_28 rfl ?_
    refine rg_20 hh (pc := 29) dX12_read_29 rfl ?_
    refine s_bipush (v := 60) (pc := 32) dX12_read_32 (by decide) ?_
    refine s_iload_n (pc := 34) 1 dX12_read_34 rfl ?_
    refine s_imul (pc := 35) dX12_read_35 ?_
    refine s_iload_n (pc := 36) 2 dX12_read_36 rfl ?_
    refine s_iadd (pc := 37) dX12_read_37 ?_
    refine rl_2 hh (pc := 38) dX12_read_38 ?_
    exact s_lret (pc := 39) dX12_read_39 rfl (fun _ _ q => q)
  · refine s_ldc2 (v := (-1)) (pc := 22) dX12_read_22 wk_X12_106 ?_
    refine s_goto (tgt := 39) (pc := 25) dX12_read_25 (by decide) ?_
    exact s_lret (pc := 39) dX12_read_39 rfl (fun _ _ q => q)
theorem pX12_read_ok (hh : mo + 18 ≤ h.2.1) (s : RS) (a0 : Int32) (a1 : Int32) : ∀ x, pX12_read s a0 a1 = some x → aMet l 2 yX12_read cX12_read 3 (some .long) [.ref mo, .int a0, .int a1] (rH mo h s) (some (.long x.1)) (rH mo h x.2) := fun x hx => a_meth (ini := false) (y := yX12_read) (by decide +kernel) (fun q => by cases q) (fun _ => Nat.le_of_ble_eq_true rfl) (pX12_read_w hh s a0 a1) x hx _ _ ⟨rfl, rfl⟩
end
section
variable {l : Launch} {n0 S0 : Nat} {mo : Nat} {h : aH}
abbrev MX12_pour : aM := (cX12_pour, RX12, 9, (some .boolean), false)
def X12_pour_j28 (s : RS) : Option (Bool × RS) :=
  (pX12_no s (1 : Int32)).bind fun x3 =>
  some (x3.1, x3.2)
theorem X12_pour_j28_ok (hh : mo + 18 ≤ h.2.1) (s : RS) : aS l 1 MX12_pour n0 S0 (oΦ (fun (x : Bool × RS) => (some (.int (b2i x.1)), rH mo h x.2))) 28 [(0, .ref mo)] [] (rH mo h s) (X12_pour_j28 s) := by
  unfold X12_pour_j28
  refine s_aload_n (pc := 28) 0 dX12_pour_28 rfl ?_
  refine s_iconst (v := 1) (pc := 29) dX12_pour_29 (by decide) ?_
  refine s_callV (M := MX12_pour) (As := [.int 1]) (st := []) (Ψ := fun (x : Bool × RS) => (some (.int (b2i x.1)), rH mo h x.2)) cv_X12_90 (by decide) (pc := 30) dX12_pour_30 r_0 (r_lt (k := 0) hh (by decide)) rfl (Nat.le_of_ble_eq_true rfl) (fun x hx => pX12_no_ok hh s (1 : Int32) x hx) rfl (fun x3 _ => ?_)
  exact s_zretB (b := x3.1) (pc := 33) dX12_pour_33 rfl (fun _ _ q => q)
def X12_pour_j52 (s : RS) : Option (Bool × RS) :=
  (pX12_no s (3 : Int32)).bind fun x4 =>
  some (x4.1, x4.2)
theorem X12_pour_j52_ok (hh : mo + 18 ≤ h.2.1) (s : RS) : aS l 1 MX12_pour n0 S0 (oΦ (fun (x : Bool × RS) => (some (.int (b2i x.1)), rH mo h x.2))) 52 [(0, .ref mo)] [] (rH mo h s) (X12_pour_j52 s) := by
  unfold X12_pour_j52
  refine s_aload_n (pc := 52) 0 dX12_pour_52 rfl ?_
  refine s_iconst (v := 3) (pc := 53) dX12_pour_53 (by decide) ?_
  refine s_callV (M := MX12_pour) (As := [.int 3]) (st := []) (Ψ := fun (x : Bool × RS) => (some (.int (b2i x.1)), rH mo h x.2)) cv_X12_90 (by decide) (pc := 54) dX12_pour_54 r_0 (r_lt (k := 0) hh (by decide)) rfl (Nat.le_of_ble_eq_true rfl) (fun x hx => pX12_no_ok hh s (3 : Int32) x hx) rfl (fun x4 _ => ?_)
  exact s_zretB (b := x4.1) (pc := 57) dX12_pour_57 rfl (fun _ _ q => q)
def X12_pour_j136 (s : RS) : Option (Bool × RS) :=
  (pX12_no s (4 : Int32)).bind fun x5 =>
  some (x5.1, x5.2)
theorem X12_pour_j136_ok (hh : mo + 18 ≤ h.2.1) (s : RS) : aS l 1 MX12_pour n0 S0 (oΦ (fun (x : Bool × RS) => (some (.int (b2i x.1)), rH mo h x.2))) 136 [(0, .ref mo)] [] (rH mo h s) (X12_pour_j136 s) := by
  unfold X12_pour_j136
  refine s_aload_n (pc := 136) 0 dX12_pour_136 rfl ?_
  refine s_iconst (v := 4) (pc := 137) dX12_pour_137 (by decide) ?_
  refine s_callV (M := MX12_pour) (As := [.int 4]) (st := []) (Ψ := fun (x : Bool × RS) => (some (.int (b2i x.1)), rH mo h x.2)) cv_X12_90 (by decide) (pc := 138) dX12_pour_138 r_0 (r_lt (k := 0) hh (by decide)) rfl (Nat.le_of_ble_eq_true rfl) (fun x hx => pX12_no_ok hh s (4 : Int32) x hx) rfl (fun x5 _ => ?_)
  exact s_zretB (b := x5.1) (pc := 141) dX12_pour_141 rfl (fun _ _ q => q)
def X12_pour_x158 (l : Launch) (n0 S0 : Nat) (mo : Nat) (h : aH) (v1 : Int32) (v2 : Int32) (v3 : Int32) (v4 : Int32) (v5 : Int32) (v6 : Bool) : RS → Option Value → aH → Prop := fun (x : RS) r h' => aEv l 1 MX12_pour n0 S0 219 [] [] (rH mo h x) r h'
def X12_pour_j182 (v1 : Int32) (v2 : Int32) (v3 : Int32) (v4 : Int32) (v5 : Int32) (v6 : Bool) (v7 : Int32) (k0 : Int32) (s : RS) : Option ((Int32 × RS) ⊕ RS) :=
  g_in ((((60 : Int32) * v1) + v2) + k0) 240 (
  g_in ((((60 : Int32) * v3) + v4) + k0) 240 (thn (uB s 2 (vp_updL (s.2.2.2 2) ((((60 : Int32) * v3) + v4) + k0).toNatClampNeg (s.2.2.2 2 ((((60 : Int32) * v1) + v2) + k0).toNatClampNeg))) fun s6 =>
  thn (v7 + 1) fun x7 =>
  some (.inl (x7, s6))))
theorem X12_pour_j182_ok (hh : mo + 18 ≤ h.2.1) (v1 : Int32) (v2 : Int32) (v3 : Int32) (v4 : Int32) (v5 : Int32) (v6 : Bool) (v7 : Int32) (k0 : Int32) (s : RS) : aS l 1 MX12_pour n0 S0 (a_LΦ (X12_pour_x158 l n0 S0 mo h v1 v2 v3 v4 v5 v6) l 1 MX12_pour n0 S0 158 (fun (q : Int32 × RS) => [(0, .ref mo), (1, .int v1), (2, .int v2), (3, .int v3), (4, .int v4), (5, .int v5), (6, .int (b2i v6)), (7, .int q.1)]) (fun _ => []) (fun (q : Int32 × RS) => rH mo h q.2)) 182 [(0, .ref mo), (1, .int v1), (2, .int v2), (3, .int v3), (4, .int v4), (5, .int v5), (6, .int (b2i v6)), (7, .int v7)] [.int k0] (rH mo h s) (X12_pour_j182 v1 v2 v3 v4 v5 v6 v7 k0 s) := by
  unfold X12_pour_j182
  refine s_istore (lv' := [(8, .int k0), (0, .ref mo), (1, .int v1), (2, .int v2), (3, .int v3), (4, .int v4), (5, .int v5), (6, .int (b2i v6)), (7, .int v7)]) (pc := 182) dX12_pour_182 (by decide) rfl ?_
  refine s_aload_n (pc := 184) 1 dX12_pour_184 rfl ?_
  refine rg_20 hh (pc := 185) dX12_pour_185 rfl ?_
  refine s_bipush (v := 60) (pc := 188) dX12_pour_188 (by decide) ?_
  refine s_iload_n (pc := 190) 4 dX12_pour_190 rfl ?_
  refine s_imul (pc := 191) dX12_pour_191 ?_
  refine s_iload (pc := 192) 5 dX12_pour_192 rfl ?_
  refine s_iadd (pc := 194) dX12_pour_194 ?_
  refine s_iload (pc := 195) 0 dX12_pour_195 rfl ?_
  refine s_iadd (pc := 197) dX12_pour_197 ?_
  refine s_aload_n (pc := 198) 1 dX12_pour_198 rfl ?_
  refine rg_20 hh (pc := 199) dX12_pour_199 rfl ?_
  refine s_bipush (v := 60) (pc := 202) dX12_pour_202 (by decide) ?_
  refine s_iload_n (pc := 204) 2 dX12_pour_204 rfl ?_
  refine s_imul (pc := 205) dX12_pour_205 ?_
  refine s_iload_n (pc := 206) 3 dX12_pour_206 rfl ?_
  refine s_iadd (pc := 207) dX12_pour_207 ?_
  refine s_iload (pc := 208) 0 dX12_pour_208 rfl ?_
  refine s_iadd (pc := 210) dX12_pour_210 ?_
  refine rl_2 hh (pc := 211) dX12_pour_211 ?_
  refine rs_2 hh (pc := 212) dX12_pour_212 (fun s6 => ?_)
  refine s_iincT (pc := 213) 8 (lv' := fun x7 => [(7, .int x7), (8, .int k0), (0, .ref mo), (1, .int v1), (2, .int v2), (3, .int v3), (4, .int v4), (5, .int v5), (6, .int (b2i v6))]) dX12_pour_213 rfl rfl (by decide) (fun _ => rfl) (fun x7 => ?_)
  refine s_goto (tgt := 158) (pc := 216) dX12_pour_216 (by decide) ?_
  refine s_sub [2, 3, 4, 5, 6, 7, 8, 0] rfl ?_
  exact s_ev (fun _ _ q => q)
def X12_pour_b158 (v1 : Int32) (v2 : Int32) (v3 : Int32) (v4 : Int32) (v5 : Int32) (v6 : Bool) (v7 : Int32) (s : RS) : Option ((Int32 × RS) ⊕ RS) :=
  if v5 ≤ v7 then
    some (.inr s)
  else
    if v6 = true then
      X12_pour_j182 v1 v2 v3 v4 v5 v6 v7 ((v5 - (1 : Int32)) - v7) s
    else
      X12_pour_j182 v1 v2 v3 v4 v5 v6 v7 v7 s
theorem X12_pour_b158_ok (hh : mo + 18 ≤ h.2.1) (v1 : Int32) (v2 : Int32) (v3 : Int32) (v4 : Int32) (v5 : Int32) (v6 : Bool) (v7 : Int32) (s : RS) : aS l 1 MX12_pour n0 S0 (a_LΦ (X12_pour_x158 l n0 S0 mo h v1 v2 v3 v4 v5 v6) l 1 MX12_pour n0 S0 158 (fun (q : Int32 × RS) => [(0, .ref mo), (1, .int v1), (2, .int v2), (3, .int v3), (4, .int v4), (5, .int v5), (6, .int (b2i v6)), (7, .int q.1)]) (fun _ => []) (fun (q : Int32 × RS) => rH mo h q.2)) 158 [(0, .ref mo), (1, .int v1), (2, .int v2), (3, .int v3), (4, .int v4), (5, .int v5), (6, .int (b2i v6)), (7, .int v7)] [] (rH mo h s) (X12_pour_b158 v1 v2 v3 v4 v5 v6 v7 s) := by
  unfold X12_pour_b158
  refine s_iload (pc := 158) 7 dX12_pour_158 rfl ?_
  refine s_iload (pc := 160) 5 dX12_pour_160 rfl ?_
  refine s_icmp_ge (tgt := 219) (pc := 162) dX12_pour_162 (by decide) (fun _ => ?_) (fun _ => ?_)
  · refine s_sub [] rfl ?_
    exact s_ev (fun _ _ q => q)
  · refine s_iload (pc := 165) 6 dX12_pour_165 rfl ?_
    refine s_if_eqB (tgt := 180) (pc := 167) dX12_pour_167 (by decide) (fun _ => ?_) (fun _ => ?_)
    · refine s_iload (pc := 170) 5 dX12_pour_170 rfl ?_
      refine s_iconst (v := 1) (pc := 172) dX12_pour_172 (by decide) ?_
      refine s_isub (pc := 173) dX12_pour_173 ?_
      refine s_iload (pc := 174) 7 dX12_pour_174 rfl ?_
      refine s_isub (pc := 176) dX12_pour_176 ?_
      refine s_goto (tgt := 182) (pc := 177) dX12_pour_177 (by decide) ?_
      exact X12_pour_j182_ok hh v1 v2 v3 v4 v5 v6 v7 ((v5 - (1 : Int32)) - v7) s
    · refine s_iload (pc := 180) 7 dX12_pour_180 rfl ?_
      exact X12_pour_j182_ok hh v1 v2 v3 v4 v5 v6 v7 v7 s
def X12_pour_j153 (v1 : Int32) (v2 : Int32) (v3 : Int32) (v4 : Int32) (v5 : Int32) (k0 : Bool) (s : RS) : Option (Bool × RS) :=
  (a_loop (fun (q : Int32 × RS) => X12_pour_b158 v1 v2 v3 v4 v5 k0 q.1 q.2) FU ((0 : Int32), s)).bind fun (t8 : RS) =>
    some (true, t8)
theorem X12_pour_j153_ok (hh : mo + 18 ≤ h.2.1) (v1 : Int32) (v2 : Int32) (v3 : Int32) (v4 : Int32) (v5 : Int32) (k0 : Bool) (s : RS) : aS l 1 MX12_pour n0 S0 (oΦ (fun (x : Bool × RS) => (some (.int (b2i x.1)), rH mo h x.2))) 153 [(0, .ref mo), (1, .int v1), (2, .int v2), (3, .int v3), (4, .int v4), (5, .int v5)] [.int (b2i k0)] (rH mo h s) (X12_pour_j153 v1 v2 v3 v4 v5 k0 s) := by
  unfold X12_pour_j153
  refine s_istore (lv' := [(6, .int (b2i k0)), (0, .ref mo), (1, .int v1), (2, .int v2), (3, .int v3), (4, .int v4), (5, .int v5)]) (pc := 153) dX12_pour_153 (by decide) rfl ?_
  refine s_iconst (v := 0) (pc := 155) dX12_pour_155 (by decide) ?_
  refine s_istore (lv' := [(7, .int 0), (6, .int (b2i k0)), (0, .ref mo), (1, .int v1), (2, .int v2), (3, .int v3), (4, .int v4), (5, .int v5)]) (pc := 156) dX12_pour_156 (by decide) rfl ?_
  refine s_bind (Ψ := X12_pour_x158 l n0 S0 mo h v1 v2 v3 v4 v5 k0) ?_ ?_
  · refine s_sub [2, 3, 4, 5, 6, 7, 1, 0] rfl ?_
    exact s_loop (lvf := fun (q : Int32 × RS) => [(0, .ref mo), (1, .int v1), (2, .int v2), (3, .int v3), (4, .int v4), (5, .int v5), (6, .int (b2i k0)), (7, .int q.1)]) (stf := fun _ => []) (hf := fun (q : Int32 × RS) => rH mo h q.2) (fun q => X12_pour_b158_ok hh v1 v2 v3 v4 v5 k0 q.1 q.2) FU ((0 : Int32), s)
  · intro t8 z r h' hz hr
    refine (?_ : aS l 1 MX12_pour n0 S0 (oΦ (fun (x : Bool × RS) => (some (.int (b2i x.1)), rH mo h x.2))) 219 [] [] (rH mo h t8) _) z hz r h' hr
    refine s_iconst (v := 1) (pc := 219) dX12_pour_219 (by decide) ?_
    exact s_zretB (b := true) (pc := 220) dX12_pour_220 rfl (fun _ _ q => q)
def pX12_pour (s : RS) (a0 : Int32) (a1 : Int32) (a2 : Int32) (a3 : Int32) (a4 : Int32) : Option (Bool × RS) :=
  thn (uI s 1 (0 : Int32)) fun s1 =>
  thn (uI s1 0 (0 : Int32)) fun s2 =>
  if a0 < 0 then
    X12_pour_j28 s2
  else
    if (4 : Int32) ≤ a0 then
      X12_pour_j28 s2
    else
      if a2 < 0 then
        X12_pour_j28 s2
      else
        if a2 < (4 : Int32) then
          g_in a0 4 (
          if (s2.2.2.1 1 a0.toNatClampNeg) < 0 then
            X12_pour_j52 s2
          else
            g_in a2 4 (
            if 0 ≤ (s2.2.2.1 1 a2.toNatClampNeg) then
              g_in a0 4 (
              g_in a2 4 (
              if (s2.2.2.1 0 a0.toNatClampNeg) = (s2.2.2.1 0 a2.toNatClampNeg) then
                if 0 ≤ a4 then
                  if a1 < 0 then
                    X12_pour_j136 s2
                  else
                    if a3 < 0 then
                      X12_pour_j136 s2
                    else
                      g_in a0 4 (
                      if (s2.2.2.1 1 a0.toNatClampNeg).toInt64 < (a1.toInt64 + a4.toInt64) then
                        X12_pour_j136 s2
                      else
                        g_in a2 4 (
                        if (a3.toInt64 + a4.toInt64) ≤ (s2.2.2.1 1 a2.toNatClampNeg).toInt64 then
                          if a3 ≤ a1 then
                            X12_pour_j153 a0 a1 a2 a3 a4 false s2
                          else
                            X12_pour_j153 a0 a1 a2 a3 a4 true s2
                        else
                          X12_pour_j136 s2))
                else
                  (pX12_no s2 (6 : Int32)).bind fun x9 =>
                  some (x9.1, x9.2)
              else
                (pX12_no s2 (11 : Int32)).bind fun x10 =>
                some (x10.1, x10.2)))
            else
              X12_pour_j52 s2))
        else
          X12_pour_j28 s2
theorem pX12_pour_w (hh : mo + 18 ≤ h.2.1) (s : RS) (a0 : Int32) (a1 : Int32) (a2 : Int32) (a3 : Int32) (a4 : Int32) : aS l 1 MX12_pour n0 S0 (oΦ (fun (x : Bool × RS) => (some (.int (b2i x.1)), rH mo h x.2))) 0 [(0, .ref mo), (1, .int a0), (2, .int a1), (3, .int a2), (4, .int a3), (5, .int a4)] [] (rH mo h s) (pX12_pour s a0 a1 a2 a3 a4) := by
  unfold pX12_pour
  refine s_aload_n (pc := 0) 0 dX12_pour_0 rfl ?_
  refine s_iconst (v := 0) (pc := 1) dX12_pour_1 (by decide) ?_
  refine rp_75 hh (pc := 2) dX12_pour_2 rfl (fun s1 => ?_)
  refine s_aload_n (pc := 5) 0 dX12_pour_5 rfl ?_
  refine s_iconst (v := 0) (pc := 6) dX12_pour_6 (by decide) ?_
  refine rp_78 hh (pc := 7) dX12_pour_7 rfl (fun s2 => ?_)
  refine s_iload_n (pc := 10) 1 dX12_pour_10 rfl ?_
  refine s_if_lt (tgt := 28) (pc := 11) dX12_pour_11 (by decide) (fun _ => ?_) (fun _ => ?_)
  · refine s_sub [0] rfl ?_
    exact X12_pour_j28_ok hh s2
  · refine s_iload_n (pc := 14) 1 dX12_pour_14 rfl ?_
    refine s_iconst (v := 4) (pc := 15) dX12_pour_15 (by decide) ?_
    refine s_icmp_ge (tgt := 28) (pc := 16) dX12_pour_16 (by decide) (fun _ => ?_) (fun _ => ?_)
    · refine s_sub [0] rfl ?_
      exact X12_pour_j28_ok hh s2
    · refine s_iload_n (pc := 19) 3 dX12_pour_19 rfl ?_
      refine s_if_lt (tgt := 28) (pc := 20) dX12_pour_20 (by decide) (fun _ => ?_) (fun _ => ?_)
      · refine s_sub [0] rfl ?_
        exact X12_pour_j28_ok hh s2
      · refine s_iload_n (pc := 23) 3 dX12_pour_23 rfl ?_
        refine s_iconst (v := 4) (pc := 24) dX12_pour_24 (by decide) ?_
        refine s_icmp_lt (tgt := 34) (pc := 25) dX12_pour_25 (by decide) (fun _ => ?_) (fun _ => ?_)
        · refine s_aload_n (pc := 34) 0 dX12_pour_34 rfl ?_
          refine rg_17 hh (pc := 35) dX12_pour_35 rfl ?_
          refine s_iload_n (pc := 38) 1 dX12_pour_38 rfl ?_
          refine rl_1 hh (pc := 39) dX12_pour_39 ?_
          refine s_if_lt (tgt := 52) (pc := 40) dX12_pour_40 (by decide) (fun _ => ?_) (fun _ => ?_)
          · refine s_sub [0] rfl ?_
            exact X12_pour_j52_ok hh s2
          · refine s_aload_n (pc := 43) 0 dX12_pour_43 rfl ?_
            refine rg_17 hh (pc := 44) dX12_pour_44 rfl ?_
            refine s_iload_n (pc := 47) 3 dX12_pour_47 rfl ?_
            refine rl_1 hh (pc := 48) dX12_pour_48 ?_
            refine s_if_ge (tgt := 58) (pc := 49) dX12_pour_49 (by decide) (fun _ => ?_) (fun _ => ?_)
            · refine s_aload_n (pc := 58) 0 dX12_pour_58 rfl ?_
              refine rg_13 hh (pc := 59) dX12_pour_59 rfl ?_
              refine s_iload_n (pc := 62) 1 dX12_pour_62 rfl ?_
              refine rl_0 hh (pc := 63) dX12_pour_63 ?_
              refine s_aload_n (pc := 64) 0 dX12_pour_64 rfl ?_
              refine rg_13 hh (pc := 65) dX12_pour_65 rfl ?_
              refine s_iload_n (pc := 68) 3 dX12_pour_68 rfl ?_
              refine rl_0 hh (pc := 69) dX12_pour_69 ?_
              refine s_icmp_eq (tgt := 80) (pc := 70) dX12_pour_70 (by decide) (fun _ => ?_) (fun _ => ?_)
              · refine s_iload (pc := 80) 5 dX12_pour_80 rfl ?_
                refine s_if_ge (tgt := 92) (pc := 82) dX12_pour_82 (by decide) (fun _ => ?_) (fun _ => ?_)
                · refine s_iload_n (pc := 92) 2 dX12_pour_92 rfl ?_
                  refine s_if_lt (tgt := 136) (pc := 93) dX12_pour_93 (by decide) (fun _ => ?_) (fun _ => ?_)
                  · refine s_sub [0] rfl ?_
                    exact X12_pour_j136_ok hh s2
                  · refine s_iload (pc := 96) 4 dX12_pour_96 rfl ?_
                    refine s_if_lt (tgt := 136) (pc := 98) dX12_pour_98 (by decide) (fun _ => ?_) (fun _ => ?_)
                    · refine s_sub [0] rfl ?_
                      exact X12_pour_j136_ok hh s2
                    · refine s_iload_n (pc := 101) 2 dX12_pour_101 rfl ?_
                      refine s_i2l (pc := 102) dX12_pour_102 ?_
                      refine s_iload (pc := 103) 5 dX12_pour_103 rfl ?_
                      refine s_i2l (pc := 105) dX12_pour_105 ?_
                      refine s_ladd (pc := 106) dX12_pour_106 ?_
                      refine s_aload_n (pc := 107) 0 dX12_pour_107 rfl ?_
                      refine rg_17 hh (pc := 108) dX12_pour_108 rfl ?_
                      refine s_iload_n (pc := 111) 1 dX12_pour_111 rfl ?_
                      refine rl_1 hh (pc := 112) dX12_pour_112 ?_
                      refine s_i2l (pc := 113) dX12_pour_113 ?_
                      refine s_lcmp (pc := 114) dX12_pour_114 ?_
                      refine s_ifL (lg_cmp_gt _ _) (s_if_gt (tgt := 136) (pc := 115) dX12_pour_115 (by decide) (fun _ => ?_) (fun _ => ?_))
                      · refine s_sub [0] rfl ?_
                        exact X12_pour_j136_ok hh s2
                      · refine s_iload (pc := 118) 4 dX12_pour_118 rfl ?_
                        refine s_i2l (pc := 120) dX12_pour_120 ?_
                        refine s_iload (pc := 121) 5 dX12_pour_121 rfl ?_
                        refine s_i2l (pc := 123) dX12_pour_123 ?_
                        refine s_ladd (pc := 124) dX12_pour_124 ?_
                        refine s_aload_n (pc := 125) 0 dX12_pour_125 rfl ?_
                        refine rg_17 hh (pc := 126) dX12_pour_126 rfl ?_
                        refine s_iload_n (pc := 129) 3 dX12_pour_129 rfl ?_
                        refine rl_1 hh (pc := 130) dX12_pour_130 ?_
                        refine s_i2l (pc := 131) dX12_pour_131 ?_
                        refine s_lcmp (pc := 132) dX12_pour_132 ?_
                        refine s_ifL (lg_cmp_le _ _) (s_if_le (tgt := 142) (pc := 133) dX12_pour_133 (by decide) (fun _ => ?_) (fun _ => ?_))
                        · refine s_iload_n (pc := 142) 2 dX12_pour_142 rfl ?_
                          refine s_iload (pc := 143) 4 dX12_pour_143 rfl ?_
                          refine s_icmp_ge (tgt := 152) (pc := 145) dX12_pour_145 (by decide) (fun _ => ?_) (fun _ => ?_)
                          · refine s_iconst (v := 0) (pc := 152) dX12_pour_152 (by decide) ?_
                            exact X12_pour_j153_ok hh a0 a1 a2 a3 a4 false s2
                          · refine s_iconst (v := 1) (pc := 148) dX12_pour_148 (by decide) ?_
                            refine s_goto (tgt := 153) (pc := 149) dX12_pour_149 (by decide) ?_
                            exact X12_pour_j153_ok hh a0 a1 a2 a3 a4 true s2
                        · refine s_sub [0] rfl ?_
                          exact X12_pour_j136_ok hh s2
                · refine s_aload_n (pc := 85) 0 dX12_pour_85 rfl ?_
                  refine s_bipush (v := 6) (pc := 86) dX12_pour_86 (by decide) ?_
                  refine s_callV (M := MX12_pour) (As := [.int 6]) (st := []) (Ψ := fun (x : Bool × RS) => (some (.int (b2i x.1)), rH mo h x.2)) cv_X12_90 (by decide) (pc := 88) dX12_pour_88 r_0 (r_lt (k := 0) hh (by decide)) rfl (Nat.le_of_ble_eq_true rfl) (fun x hx => pX12_no_ok hh s2 (6 : Int32) x hx) rfl (fun x9 _ => ?_)
                  exact s_zretB (b := x9.1) (pc := 91) dX12_pour_91 rfl (fun _ _ q => q)
              · refine s_aload_n (pc := 73) 0 dX12_pour_73 rfl ?_
                refine s_bipush (v := 11) (pc := 74) dX12_pour_74 (by decide) ?_
                refine s_callV (M := MX12_pour) (As := [.int 11]) (st := []) (Ψ := fun (x : Bool × RS) => (some (.int (b2i x.1)), rH mo h x.2)) cv_X12_90 (by decide) (pc := 76) dX12_pour_76 r_0 (r_lt (k := 0) hh (by decide)) rfl (Nat.le_of_ble_eq_true rfl) (fun x hx => pX12_no_ok hh s2 (11 : Int32) x hx) rfl (fun x10 _ => ?_)
                exact s_zretB (b := x10.1) (pc := 79) dX12_pour_79 rfl (fun _ _ q => q)
            · refine s_sub [0] rfl ?_
              exact X12_pour_j52_ok hh s2
        · refine s_sub [0] rfl ?_
          exact X12_pour_j28_ok hh s2
theorem pX12_pour_ok (hh : mo + 18 ≤ h.2.1) (s : RS) (a0 : Int32) (a1 : Int32) (a2 : Int32) (a3 : Int32) (a4 : Int32) : ∀ x, pX12_pour s a0 a1 a2 a3 a4 = some x → aMet l 1 yX12_pour cX12_pour 9 (some .boolean) [.ref mo, .int a0, .int a1, .int a2, .int a3, .int a4] (rH mo h s) (some (.int (b2i x.1))) (rH mo h x.2) := fun x hx => a_meth (ini := false) (y := yX12_pour) (by decide +kernel) (fun q => by cases q) (fun _ => Nat.le_of_ble_eq_true rfl) (pX12_pour_w hh s a0 a1 a2 a3 a4) x hx _ _ ⟨rfl, rfl⟩
end
section
variable {l : Launch} {n0 S0 : Nat} {mo : Nat} {h : aH}
abbrev MX12_numberOf : aM := (cX12_numberOf, RX12, 3, (some .long), false)
def pX12_numberOf (s : RS) (a0 : Int32) (a1 : Int32) : Option Int64 :=
  g_in (((60 : Int32) * a0) + a1) 240 (
  some (s.2.2.2 2 (((60 : Int32) * a0) + a1).toNatClampNeg))
theorem pX12_numberOf_w (hh : mo + 18 ≤ h.2.1) (s : RS) (a0 : Int32) (a1 : Int32) : aS l 0 MX12_numberOf n0 S0 (oΦ (fun (x : Int64) => (some (.long x), rH mo h s))) 0 [(0, .ref mo), (1, .int a0), (2, .int a1)] [] (rH mo h s) (pX12_numberOf s a0 a1) := by
  unfold pX12_numberOf
  refine s_aload_n (pc := 0) 0 dX12_numberOf_0 rfl ?_
  refine rg_20 hh (pc := 1) dX12_numberOf_1 rfl ?_
  refine s_bipush (v := 60) (pc := 4) dX12_numberOf_4 (by decide) ?_
  refine s_iload_n (pc := 6) 1 dX12_numberOf_6 rfl ?_
  refine s_imul (pc := 7) dX12_numberOf_7 ?_
  refine s_iload_n (pc := 8) 2 dX12_numberOf_8 rfl ?_
  refine s_iadd (pc := 9) dX12_numberOf_9 ?_
  refine rl_2 hh (pc := 10) dX12_numberOf_10 ?_
  exact s_lret (pc := 11) dX12_numberOf_11 rfl (fun _ _ q => q)
theorem pX12_numberOf_ok (hh : mo + 18 ≤ h.2.1) (s : RS) (a0 : Int32) (a1 : Int32) : ∀ x, pX12_numberOf s a0 a1 = some x → aMet l 0 yX12_numberOf cX12_numberOf 3 (some .long) [.ref mo, .int a0, .int a1] (rH mo h s) (some (.long x)) (rH mo h s) := fun x hx => a_meth (ini := false) (y := yX12_numberOf) (by decide +kernel) (fun q => by cases q) (fun _ => Nat.le_of_ble_eq_true rfl) (pX12_numberOf_w hh s a0 a1) x hx _ _ ⟨rfl, rfl⟩
end
section
variable {l : Launch} {n0 S0 : Nat} {mo : Nat} {h : aH}
abbrev MX12_isTray : aM := (cX12_isTray, RX12, 2, (some .boolean), false)
def pX12_isTray (s : RS) (a0 : Int32) : Option Bool :=
  (pX12_isIn a0.toInt64 (0 : Int64) (3 : Int64)).bind fun x1 =>
  some x1
theorem pX12_isTray_w (hh : mo + 18 ≤ h.2.1) (s : RS) (a0 : Int32) : aS l 1 MX12_isTray n0 S0 (oΦ (fun (x : Bool) => (some (.int (b2i x)), rH mo h s))) 0 [(0, .ref mo), (1, .int a0)] [] (rH mo h s) (pX12_isTray s a0) := by
  unfold pX12_isTray
  refine s_iload_n (pc := 0) 1 dX12_isTray_0 rfl ?_
  refine s_i2l (pc := 1) dX12_isTray_1 ?_
  refine s_lconst (v := 0) (pc := 2) dX12_isTray_2 (by decide) ?_
  refine s_ldc2 (v := 3) (pc := 3) dX12_isTray_3 wk_X12_108 ?_
  refine s_callS (M := MX12_isTray) (As := [.long a0.toInt64, .long (0 : Int64), .long (3 : Int64)]) (st := []) (Ψ := fun (x : Bool) => (some (.int (b2i x)), rH mo h s)) cs_X12_110 (by decide) (pc := 6) dX12_isTray_6 rfl (Nat.le_of_ble_eq_true rfl) (fun x hx => pX12_isIn_ok a0.toInt64 (0 : Int64) (3 : Int64) x hx) rfl (fun x1 _ => ?_)
  exact s_zretB (b := x1) (pc := 9) dX12_isTray_9 rfl (fun _ _ q => q)
theorem pX12_isTray_ok (hh : mo + 18 ≤ h.2.1) (s : RS) (a0 : Int32) : ∀ x, pX12_isTray s a0 = some x → aMet l 1 yX12_isTray cX12_isTray 2 (some .boolean) [.ref mo, .int a0] (rH mo h s) (some (.int (b2i x))) (rH mo h s) := fun x hx => a_meth (ini := false) (y := yX12_isTray) (by decide +kernel) (fun q => by cases q) (fun _ => Nat.le_of_ble_eq_true rfl) (pX12_isTray_w hh s a0) x hx _ _ ⟨rfl, rfl⟩
end
section
variable {l : Launch} {n0 S0 : Nat} {mo : Nat} {h : aH}
abbrev MX12_look2 : aM := (cX12_look2, RX12, 2, (some .int), false)
def pX12_look2 (s : RS) (a0 : Int32) : Option Int32 :=
  if (s.1 9) ≤ a0 then
    some (0 : Int32)
  else
    g_in a0 900 (
    some ((s.2.2.1 3 a0.toNatClampNeg) &&& (255 : Int32)))
theorem pX12_look2_w (hh : mo + 18 ≤ h.2.1) (s : RS) (a0 : Int32) : aS l 0 MX12_look2 n0 S0 (oΦ (fun (x : Int32) => (some (.int x), rH mo h s))) 0 [(0, .ref mo), (1, .int a0)] [] (rH mo h s) (pX12_look2 s a0) := by
  unfold pX12_look2
  refine s_iload_n (pc := 0) 1 dX12_look2_0 rfl ?_
  refine s_aload_n (pc := 1) 0 dX12_look2_1 rfl ?_
  refine rg_114 hh (pc := 2) dX12_look2_2 rfl ?_
  refine s_icmp_ge (tgt := 21) (pc := 5) dX12_look2_5 (by decide) (fun _ => ?_) (fun _ => ?_)
  · refine s_iconst (v := 0) (pc := 21) dX12_look2_21 (by decide) ?_
    exact s_iret (pc := 22) dX12_look2_22 rfl (fun _ _ q => q)
  · refine s_aload_n (pc := 8) 0 dX12_look2_8 rfl ?_
    refine rg_24 hh (pc := 9) dX12_look2_9 rfl ?_
    refine s_iload_n (pc := 12) 1 dX12_look2_12 rfl ?_
    refine rl_3 hh (pc := 13) dX12_look2_13 ?_
    refine s_sipush (v := 255) (pc := 14) dX12_look2_14 (by decide) ?_
    refine s_iand (pc := 17) dX12_look2_17 ?_
    refine s_goto (tgt := 22) (pc := 18) dX12_look2_18 (by decide) ?_
    exact s_iret (pc := 22) dX12_look2_22 rfl (fun _ _ q => q)
theorem pX12_look2_ok (hh : mo + 18 ≤ h.2.1) (s : RS) (a0 : Int32) : ∀ x, pX12_look2 s a0 = some x → aMet l 0 yX12_look2 cX12_look2 2 (some .int) [.ref mo, .int a0] (rH mo h s) (some (.int x)) (rH mo h s) := fun x hx => a_meth (ini := false) (y := yX12_look2) (by decide +kernel) (fun q => by cases q) (fun _ => Nat.le_of_ble_eq_true rfl) (pX12_look2_w hh s a0) x hx _ _ ⟨rfl, rfl⟩
end
section
variable {l : Launch} {n0 S0 : Nat} {mo : Nat} {h : aH}
abbrev MX12_isLetter : aM := (cX12_isLetter, RX12, 1, (some .boolean), false)
def pX12_isLetter (a0 : Int32) : Option Bool :=
  if a0 < (97 : Int32) then
    some false
  else
    if (122 : Int32) < a0 then
      some false
    else
      some true
theorem pX12_isLetter_w (a0 : Int32) : aS l 0 MX12_isLetter n0 S0 (oΦ (fun (x : Bool) => (some (.int (b2i x)), h))) 0 [(0, .int a0)] [] h (pX12_isLetter a0) := by
  unfold pX12_isLetter
  refine s_iload_n (pc := 0) 0 dX12_isLetter_0 rfl ?_
  refine s_bipush (v := 97) (pc := 1) dX12_isLetter_1 (by decide) ?_
  refine s_icmp_lt (tgt := 16) (pc := 3) dX12_isLetter_3 (by decide) (fun _ => ?_) (fun _ => ?_)
  · refine s_iconst (v := 0) (pc := 16) dX12_isLetter_16 (by decide) ?_
    exact s_zretB (b := false) (pc := 17) dX12_isLetter_17 rfl (fun _ _ q => q)
  · refine s_iload_n (pc := 6) 0 dX12_isLetter_6 rfl ?_
    refine s_bipush (v := 122) (pc := 7) dX12_isLetter_7 (by decide) ?_
    refine s_icmp_gt (tgt := 16) (pc := 9) dX12_isLetter_9 (by decide) (fun _ => ?_) (fun _ => ?_)
    · refine s_iconst (v := 0) (pc := 16) dX12_isLetter_16 (by decide) ?_
      exact s_zretB (b := false) (pc := 17) dX12_isLetter_17 rfl (fun _ _ q => q)
    · refine s_iconst (v := 1) (pc := 12) dX12_isLetter_12 (by decide) ?_
      refine s_goto (tgt := 17) (pc := 13) dX12_isLetter_13 (by decide) ?_
      exact s_zretB (b := true) (pc := 17) dX12_isLetter_17 rfl (fun _ _ q => q)
theorem pX12_isLetter_ok (a0 : Int32) : ∀ x, pX12_isLetter a0 = some x → aMet l 0 yX12_isLetter cX12_isLetter 1 (some .boolean) [.int a0] h (some (.int (b2i x))) h := fun x hx => a_meth (ini := false) (y := yX12_isLetter) (by decide +kernel) (fun q => by cases q) (fun _ => Nat.le_of_ble_eq_true rfl) (pX12_isLetter_w a0) x hx _ _ ⟨rfl, rfl⟩
end
section
variable {l : Launch} {n0 S0 : Nat} {mo : Nat} {h : aH}
abbrev MX12_isDigit : aM := (cX12_isDigit, RX12, 1, (some .boolean), false)
def pX12_isDigit (a0 : Int32) : Option Bool :=
  if a0 < (48 : Int32) then
    some false
  else
    if (57 : Int32) < a0 then
      some false
    else
      some true
theorem pX12_isDigit_w (a0 : Int32) : aS l 0 MX12_isDigit n0 S0 (oΦ (fun (x : Bool) => (some (.int (b2i x)), h))) 0 [(0, .int a0)] [] h (pX12_isDigit a0) := by
  unfold pX12_isDigit
  refine s_iload_n (pc := 0) 0 dX12_isDigit_0 rfl ?_
  refine s_bipush (v := 48) (pc := 1) dX12_isDigit_1 (by decide) ?_
  refine s_icmp_lt (tgt := 16) (pc := 3) dX12_isDigit_3 (by decide) (fun _ => ?_) (fun _ => ?_)
  · refine s_iconst (v := 0) (pc := 16) dX12_isDigit_16 (by decide) ?_
    exact s_zretB (b := false) (pc := 17) dX12_isDigit_17 rfl (fun _ _ q => q)
  · refine s_iload_n (pc := 6) 0 dX12_isDigit_6 rfl ?_
    refine s_bipush (v := 57) (pc := 7) dX12_isDigit_7 (by decide) ?_
    refine s_icmp_gt (tgt := 16) (pc := 9) dX12_isDigit_9 (by decide) (fun _ => ?_) (fun _ => ?_)
    · refine s_iconst (v := 0) (pc := 16) dX12_isDigit_16 (by decide) ?_
      exact s_zretB (b := false) (pc := 17) dX12_isDigit_17 rfl (fun _ _ q => q)
    · refine s_iconst (v := 1) (pc := 12) dX12_isDigit_12 (by decide) ?_
      refine s_goto (tgt := 17) (pc := 13) dX12_isDigit_13 (by decide) ?_
      exact s_zretB (b := true) (pc := 17) dX12_isDigit_17 rfl (fun _ _ q => q)
theorem pX12_isDigit_ok (a0 : Int32) : ∀ x, pX12_isDigit a0 = some x → aMet l 0 yX12_isDigit cX12_isDigit 1 (some .boolean) [.int a0] h (some (.int (b2i x))) h := fun x hx => a_meth (ini := false) (y := yX12_isDigit) (by decide +kernel) (fun q => by cases q) (fun _ => Nat.le_of_ble_eq_true rfl) (pX12_isDigit_w a0) x hx _ _ ⟨rfl, rfl⟩
end
