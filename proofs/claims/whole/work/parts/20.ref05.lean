section
variable {l : Launch} {n0 S0 : Nat} {mo : Nat} {h : aH}
abbrev MX12_key : aM := (cX12_key, RX12, 3, (some .int), false)
def pX12_key (s : RS) (a0 : Int32) (a1 : Int32) : Option (Int32 × RS) :=
  thn (uI s 1 (0 : Int32)) fun s1 =>
  (pX12_whyNoThing s1 a0 a1).bind fun x2 =>
  thn (uI s1 0 x2) fun s3 =>
  if (s3.1 0) ≤ 0 then
    (pX12_toldBy s3 a0 a1 (3 : Int32)).bind fun x4 =>
    some (x4, s3)
  else
    some ((-1 : Int32), s3)
theorem pX12_key_w (hh : mo + 18 ≤ h.2.1) (s : RS) (a0 : Int32) (a1 : Int32) : aS l 7 MX12_key n0 S0 (oΦ (fun (x : Int32 × RS) => (some (.int x.1), rH mo h x.2))) 0 [(0, .ref mo), (1, .int a0), (2, .int a1)] [] (rH mo h s) (pX12_key s a0 a1) := by
  unfold pX12_key
  refine s_aload_n (pc := 0) 0 dX12_key_0 rfl ?_
  refine s_iconst (v := 0) (pc := 1) dX12_key_1 (by decide) ?_
  refine rp_75 hh (pc := 2) dX12_key_2 rfl (fun s1 => ?_)
  refine s_aload_n (pc := 5) 0 dX12_key_5 rfl ?_
  refine s_aload_n (pc := 6) 0 dX12_key_6 rfl ?_
  refine s_iload_n (pc := 7) 1 dX12_key_7 rfl ?_
  refine s_iload_n (pc := 8) 2 dX12_key_8 rfl ?_
  refine s_callV (M := MX12_key) (As := [.int a0, .int a1]) (st := [.ref mo]) (Ψ := fun (x : Int32) => (some (.int x), rH mo h s1)) cv_X12_359 (by decide) (pc := 9) dX12_key_9 r_0 (r_lt (k := 0) hh (by decide)) rfl (Nat.le_of_ble_eq_true rfl) (fun x hx => pX12_whyNoThing_ok hh s1 a0 a1 x hx) rfl (fun x2 _ => ?_)
  refine rp_78 hh (pc := 12) dX12_key_12 rfl (fun s3 => ?_)
  refine s_aload_n (pc := 15) 0 dX12_key_15 rfl ?_
  refine rg_78 hh (pc := 16) dX12_key_16 rfl ?_
  refine s_if_le (tgt := 26) (pc := 19) dX12_key_19 (by decide) (fun _ => ?_) (fun _ => ?_)
  · refine s_aload_n (pc := 26) 0 dX12_key_26 rfl ?_
    refine s_iload_n (pc := 27) 1 dX12_key_27 rfl ?_
    refine s_iload_n (pc := 28) 2 dX12_key_28 rfl ?_
    refine s_iconst (v := 3) (pc := 29) dX12_key_29 (by decide) ?_
    refine s_callV (M := MX12_key) (As := [.int a0, .int a1, .int 3]) (st := []) (Ψ := fun (x : Int32) => (some (.int x), rH mo h s3)) cv_X12_346 (by decide) (pc := 30) dX12_key_30 r_0 (r_lt (k := 0) hh (by decide)) rfl (Nat.le_of_ble_eq_true rfl) (fun x hx => pX12_toldBy_ok hh s3 a0 a1 (3 : Int32) x hx) rfl (fun x4 _ => ?_)
    exact s_iret (pc := 33) dX12_key_33 rfl (fun _ _ q => q)
  · refine s_iconst (v := (-1)) (pc := 22) dX12_key_22 (by decide) ?_
    refine s_goto (tgt := 33) (pc := 23) dX12_key_23 (by decide) ?_
    exact s_iret (pc := 33) dX12_key_33 rfl (fun _ _ q => q)
theorem pX12_key_ok (hh : mo + 18 ≤ h.2.1) (s : RS) (a0 : Int32) (a1 : Int32) : ∀ x, pX12_key s a0 a1 = some x → aMet l 7 yX12_key cX12_key 3 (some .int) [.ref mo, .int a0, .int a1] (rH mo h s) (some (.int x.1)) (rH mo h x.2) := fun x hx => a_meth (ini := false) (y := yX12_key) (by decide +kernel) (fun q => by cases q) (fun _ => Nat.le_of_ble_eq_true rfl) (pX12_key_w hh s a0 a1) x hx _ _ ⟨rfl, rfl⟩
end
section
variable {l : Launch} {n0 S0 : Nat} {mo : Nat} {h : aH}
abbrev MX12_placeIn : aM := (cX12_placeIn, RX12, 4, (some .int), false)
def X12_placeIn_x15 (l : Launch) (n0 S0 : Nat) (mo : Nat) (h : aH) (v2 : Int32) (s : RS) : (Int32 ⊕ Unit) → Option Value → aH → Prop := Sum.elim (fun (x : Int32) (r : Option Value) (h' : aH) => aEv l 7 MX12_placeIn n0 S0 33 [(3, .int x)] [] (rH mo h s) r h') (fun (x : Unit) (r : Option Value) (h' : aH) => aEv l 7 MX12_placeIn n0 S0 41 [] [] (rH mo h s) r h')
def X12_placeIn_b15 (v2 : Int32) (v3 : Int32) (s : RS) : Option (Int32 ⊕ (Int32 ⊕ Unit)) :=
  if (s.1 25) ≤ v3 then
    some (.inr (.inr ()))
  else
    g_in v3 16 (
    if (s.2.2.1 6 v3.toNatClampNeg) = v2 then
      some (.inr (.inl v3))
    else
      thn (v3 + 1) fun x3 =>
      some (.inl x3))
theorem X12_placeIn_b15_ok (hh : mo + 18 ≤ h.2.1) (v2 : Int32) (v3 : Int32) (s : RS) : aS l 7 MX12_placeIn n0 S0 (a_LΦ (X12_placeIn_x15 l n0 S0 mo h v2 s) l 7 MX12_placeIn n0 S0 15 (fun (q : Int32) => [(0, .ref mo), (2, .int v2), (3, .int q)]) (fun _ => []) (fun (q : Int32) => rH mo h s)) 15 [(0, .ref mo), (2, .int v2), (3, .int v3)] [] (rH mo h s) (X12_placeIn_b15 v2 v3 s) := by
  unfold X12_placeIn_b15
  refine s_iload_n (pc := 15) 2 dX12_placeIn_15 rfl ?_
  refine s_aload_n (pc := 16) 0 dX12_placeIn_16 rfl ?_
  refine rg_356 hh (pc := 17) dX12_placeIn_17 rfl ?_
  refine s_icmp_ge (tgt := 41) (pc := 20) dX12_placeIn_20 (by decide) (fun _ => ?_) (fun _ => ?_)
  · refine s_sub [] rfl ?_
    exact s_ev (fun _ _ q => q)
  · refine s_aload_n (pc := 23) 0 dX12_placeIn_23 rfl ?_
    refine rg_41 hh (pc := 24) dX12_placeIn_24 rfl ?_
    refine s_iload_n (pc := 27) 2 dX12_placeIn_27 rfl ?_
    refine rl_6 hh (pc := 28) dX12_placeIn_28 ?_
    refine s_iload_n (pc := 29) 1 dX12_placeIn_29 rfl ?_
    refine s_icmp_ne (tgt := 35) (pc := 30) dX12_placeIn_30 (by decide) (fun _ => ?_) (fun _ => ?_)
    · refine s_sub [2] rfl ?_
      exact s_ev (fun _ _ q => q)
    · refine s_iincT (pc := 35) 2 (lv' := fun x3 => [(3, .int x3), (0, .ref mo), (2, .int v2)]) dX12_placeIn_35 rfl rfl (by decide) (fun _ => rfl) (fun x3 => ?_)
      refine s_goto (tgt := 15) (pc := 38) dX12_placeIn_38 (by decide) ?_
      refine s_sub [1, 2, 0] rfl ?_
      exact s_ev (fun _ _ q => q)
def pX12_placeIn (s : RS) (a0 : Int32) (a1 : Int32) : Option (Int32 × RS) :=
  (pX12_listOf_7 s a0).bind fun x1 =>
  thn (uI x1.2 25 x1.1) fun s2 =>
  (a_loop (fun (q : Int32) => X12_placeIn_b15 a1 q s2) FU (0 : Int32)).bind (Sum.elim (fun (t4 : Int32) =>
      some (t4, s2))
    (fun (t5 : Unit) =>
      some ((-1 : Int32), s2)))
theorem pX12_placeIn_w (hh : mo + 18 ≤ h.2.1) (s : RS) (a0 : Int32) (a1 : Int32) : aS l 7 MX12_placeIn n0 S0 (oΦ (fun (x : Int32 × RS) => (some (.int x.1), rH mo h x.2))) 0 [(0, .ref mo), (1, .int a0), (2, .int a1)] [] (rH mo h s) (pX12_placeIn s a0 a1) := by
  unfold pX12_placeIn
  refine s_aload_n (pc := 0) 0 dX12_placeIn_0 rfl ?_
  refine s_aload_n (pc := 1) 0 dX12_placeIn_1 rfl ?_
  refine s_iload_n (pc := 2) 1 dX12_placeIn_2 rfl ?_
  refine s_aload_n (pc := 3) 0 dX12_placeIn_3 rfl ?_
  refine rg_41 hh (pc := 4) dX12_placeIn_4 rfl ?_
  refine s_callV (M := MX12_placeIn) (As := [.int a0, .ref (mo + 7)]) (st := [.ref mo]) (Ψ := fun (x : Int32 × RS) => (some (.int x.1), rH mo h x.2)) cv_X12_352 (by decide) (pc := 7) dX12_placeIn_7 r_0 (r_lt (k := 0) hh (by decide)) rfl (Nat.le_of_ble_eq_true rfl) (fun x hx => pX12_listOf_7_ok hh s a0 x hx) rfl (fun x1 _ => ?_)
  refine rp_356 hh (pc := 10) dX12_placeIn_10 rfl (fun s2 => ?_)
  refine s_iconst (v := 0) (pc := 13) dX12_placeIn_13 (by decide) ?_
  refine s_istore_n (lv' := [(3, .int 0), (0, .ref mo), (1, .int a0), (2, .int a1)]) (pc := 14) dX12_placeIn_14 (by decide) rfl ?_
  refine s_bind (Ψ := X12_placeIn_x15 l n0 S0 mo h a1 s2) ?_ ?_
  · refine s_sub [1, 3, 0] rfl ?_
    exact s_loop (lvf := fun (q : Int32) => [(0, .ref mo), (2, .int a1), (3, .int q)]) (stf := fun _ => []) (hf := fun (q : Int32) => rH mo h s2) (fun q => X12_placeIn_b15_ok hh a1 q s2) FU (0 : Int32)
  · intro x z r h' hz hr
    rcases x with t4 | t5
    · refine (?_ : aS l 7 MX12_placeIn n0 S0 (oΦ (fun (x : Int32 × RS) => (some (.int x.1), rH mo h x.2))) 33 [(3, .int t4)] [] (rH mo h s2) _) z (show _ = some z from hz) r h' hr
      refine s_iload_n (pc := 33) 0 dX12_placeIn_33 rfl ?_
      exact s_iret (pc := 34) dX12_placeIn_34 rfl (fun _ _ q => q)
    · refine (?_ : aS l 7 MX12_placeIn n0 S0 (oΦ (fun (x : Int32 × RS) => (some (.int x.1), rH mo h x.2))) 41 [] [] (rH mo h s2) _) z (show _ = some z from hz) r h' hr
      refine s_iconst (v := (-1)) (pc := 41) dX12_placeIn_41 (by decide) ?_
      exact s_iret (pc := 42) dX12_placeIn_42 rfl (fun _ _ q => q)
theorem pX12_placeIn_ok (hh : mo + 18 ≤ h.2.1) (s : RS) (a0 : Int32) (a1 : Int32) : ∀ x, pX12_placeIn s a0 a1 = some x → aMet l 7 yX12_placeIn cX12_placeIn 4 (some .int) [.ref mo, .int a0, .int a1] (rH mo h s) (some (.int x.1)) (rH mo h x.2) := fun x hx => a_meth (ini := false) (y := yX12_placeIn) (by decide +kernel) (fun q => by cases q) (fun _ => Nat.le_of_ble_eq_true rfl) (pX12_placeIn_w hh s a0 a1) x hx _ _ ⟨rfl, rfl⟩
end
section
variable {l : Launch} {n0 S0 : Nat} {mo : Nat} {h : aH}
abbrev MX12_place : aM := (cX12_place, RX12, 3, (some .int), false)
def pX12_place (s : RS) (a0 : Int32) (a1 : Int32) : Option (Int32 × RS) :=
  thn (uI s 1 (0 : Int32)) fun s1 =>
  (pX12_whyNoThing s1 a0 a1).bind fun x2 =>
  thn (uI s1 0 x2) fun s3 =>
  if (s3.1 0) ≤ 0 then
    (pX12_placeIn s3 a0 a1).bind fun x4 =>
    some (x4.1, x4.2)
  else
    some ((-1 : Int32), s3)
theorem pX12_place_w (hh : mo + 18 ≤ h.2.1) (s : RS) (a0 : Int32) (a1 : Int32) : aS l 8 MX12_place n0 S0 (oΦ (fun (x : Int32 × RS) => (some (.int x.1), rH mo h x.2))) 0 [(0, .ref mo), (1, .int a0), (2, .int a1)] [] (rH mo h s) (pX12_place s a0 a1) := by
  unfold pX12_place
  refine s_aload_n (pc := 0) 0 dX12_place_0 rfl ?_
  refine s_iconst (v := 0) (pc := 1) dX12_place_1 (by decide) ?_
  refine rp_75 hh (pc := 2) dX12_place_2 rfl (fun s1 => ?_)
  refine s_aload_n (pc := 5) 0 dX12_place_5 rfl ?_
  refine s_aload_n (pc := 6) 0 dX12_place_6 rfl ?_
  refine s_iload_n (pc := 7) 1 dX12_place_7 rfl ?_
  refine s_iload_n (pc := 8) 2 dX12_place_8 rfl ?_
  refine s_callV (M := MX12_place) (As := [.int a0, .int a1]) (st := [.ref mo]) (Ψ := fun (x : Int32) => (some (.int x), rH mo h s1)) cv_X12_359 (by decide) (pc := 9) dX12_place_9 r_0 (r_lt (k := 0) hh (by decide)) rfl (Nat.le_of_ble_eq_true rfl) (fun x hx => pX12_whyNoThing_ok hh s1 a0 a1 x hx) rfl (fun x2 _ => ?_)
  refine rp_78 hh (pc := 12) dX12_place_12 rfl (fun s3 => ?_)
  refine s_aload_n (pc := 15) 0 dX12_place_15 rfl ?_
  refine rg_78 hh (pc := 16) dX12_place_16 rfl ?_
  refine s_if_le (tgt := 26) (pc := 19) dX12_place_19 (by decide) (fun _ => ?_) (fun _ => ?_)
  · refine s_aload_n (pc := 26) 0 dX12_place_26 rfl ?_
    refine s_iload_n (pc := 27) 1 dX12_place_27 rfl ?_
    refine s_iload_n (pc := 28) 2 dX12_place_28 rfl ?_
    refine s_callV (M := MX12_place) (As := [.int a0, .int a1]) (st := []) (Ψ := fun (x : Int32 × RS) => (some (.int x.1), rH mo h x.2)) cv_X12_362 (by decide) (pc := 29) dX12_place_29 r_0 (r_lt (k := 0) hh (by decide)) rfl (Nat.le_of_ble_eq_true rfl) (fun x hx => pX12_placeIn_ok hh s3 a0 a1 x hx) rfl (fun x4 _ => ?_)
    exact s_iret (pc := 32) dX12_place_32 rfl (fun _ _ q => q)
  · refine s_iconst (v := (-1)) (pc := 22) dX12_place_22 (by decide) ?_
    refine s_goto (tgt := 32) (pc := 23) dX12_place_23 (by decide) ?_
    exact s_iret (pc := 32) dX12_place_32 rfl (fun _ _ q => q)
theorem pX12_place_ok (hh : mo + 18 ≤ h.2.1) (s : RS) (a0 : Int32) (a1 : Int32) : ∀ x, pX12_place s a0 a1 = some x → aMet l 8 yX12_place cX12_place 3 (some .int) [.ref mo, .int a0, .int a1] (rH mo h s) (some (.int x.1)) (rH mo h x.2) := fun x hx => a_meth (ini := false) (y := yX12_place) (by decide +kernel) (fun q => by cases q) (fun _ => Nat.le_of_ble_eq_true rfl) (pX12_place_w hh s a0 a1) x hx _ _ ⟨rfl, rfl⟩
end
section
variable {l : Launch} {n0 S0 : Nat} {mo : Nat} {h : aH}
abbrev MX12_whyNotTwo : aM := (cX12_whyNotTwo, RX12, 3, (some .int), false)
def pX12_whyNotTwo (s : RS) (a0 : Int32) (a1 : Int32) : Option Int32 :=
  (pX12_isSet s a0).bind fun x1 =>
  if x1 = true then
    (pX12_isSet s a1).bind fun x2 =>
    if x2 = true then
      (pX12_lackOf s a0).bind fun x3 =>
      if x3 = 0 then
        (pX12_lackOf s a1).bind fun x4 =>
        if x4 = 0 then
          some (0 : Int32)
        else
          some (9 : Int32)
      else
        some (9 : Int32)
    else
      some (2 : Int32)
  else
    some (2 : Int32)
theorem pX12_whyNotTwo_w (hh : mo + 18 ≤ h.2.1) (s : RS) (a0 : Int32) (a1 : Int32) : aS l 2 MX12_whyNotTwo n0 S0 (oΦ (fun (x : Int32) => (some (.int x), rH mo h s))) 0 [(0, .ref mo), (1, .int a0), (2, .int a1)] [] (rH mo h s) (pX12_whyNotTwo s a0 a1) := by
  unfold pX12_whyNotTwo
  refine s_aload_n (pc := 0) 0 dX12_whyNotTwo_0 rfl ?_
  refine s_iload_n (pc := 1) 1 dX12_whyNotTwo_1 rfl ?_
  refine s_callV (M := MX12_whyNotTwo) (As := [.int a0]) (st := []) (Ψ := fun (x : Bool) => (some (.int (b2i x)), rH mo h s)) cv_X12_319 (by decide) (pc := 2) dX12_whyNotTwo_2 r_0 (r_lt (k := 0) hh (by decide)) rfl (Nat.le_of_ble_eq_true rfl) (fun x hx => pX12_isSet_ok hh s a0 x hx) rfl (fun x1 _ => ?_)
  refine s_if_eqB (tgt := 16) (pc := 5) dX12_whyNotTwo_5 (by decide) (fun _ => ?_) (fun _ => ?_)
  · refine s_aload_n (pc := 8) 0 dX12_whyNotTwo_8 rfl ?_
    refine s_iload_n (pc := 9) 2 dX12_whyNotTwo_9 rfl ?_
    refine s_callV (M := MX12_whyNotTwo) (As := [.int a1]) (st := []) (Ψ := fun (x : Bool) => (some (.int (b2i x)), rH mo h s)) cv_X12_319 (by decide) (pc := 10) dX12_whyNotTwo_10 r_0 (r_lt (k := 0) hh (by decide)) rfl (Nat.le_of_ble_eq_true rfl) (fun x hx => pX12_isSet_ok hh s a1 x hx) rfl (fun x2 _ => ?_)
    refine s_if_neB (tgt := 20) (pc := 13) dX12_whyNotTwo_13 (by decide) (fun _ => ?_) (fun _ => ?_)
    · refine s_aload_n (pc := 20) 0 dX12_whyNotTwo_20 rfl ?_
      refine s_iload_n (pc := 21) 1 dX12_whyNotTwo_21 rfl ?_
      refine s_callV (M := MX12_whyNotTwo) (As := [.int a0]) (st := []) (Ψ := fun (x : Int32) => (some (.int x), rH mo h s)) cv_X12_322 (by decide) (pc := 22) dX12_whyNotTwo_22 r_0 (r_lt (k := 0) hh (by decide)) rfl (Nat.le_of_ble_eq_true rfl) (fun x hx => pX12_lackOf_ok hh s a0 x hx) rfl (fun x3 _ => ?_)
      refine s_if_ne (tgt := 36) (pc := 25) dX12_whyNotTwo_25 (by decide) (fun _ => ?_) (fun _ => ?_)
      · refine s_aload_n (pc := 28) 0 dX12_whyNotTwo_28 rfl ?_
        refine s_iload_n (pc := 29) 2 dX12_whyNotTwo_29 rfl ?_
        refine s_callV (M := MX12_whyNotTwo) (As := [.int a1]) (st := []) (Ψ := fun (x : Int32) => (some (.int x), rH mo h s)) cv_X12_322 (by decide) (pc := 30) dX12_whyNotTwo_30 r_0 (r_lt (k := 0) hh (by decide)) rfl (Nat.le_of_ble_eq_true rfl) (fun x hx => pX12_lackOf_ok hh s a1 x hx) rfl (fun x4 _ => ?_)
        refine s_if_eq (tgt := 41) (pc := 33) dX12_whyNotTwo_33 (by decide) (fun _ => ?_) (fun _ => ?_)
        · refine s_iconst (v := 0) (pc := 41) dX12_whyNotTwo_41 (by decide) ?_
          exact s_iret (pc := 42) dX12_whyNotTwo_42 rfl (fun _ _ q => q)
        · refine s_bipush (v := 9) (pc := 36) dX12_whyNotTwo_36 (by decide) ?_
          refine s_goto (tgt := 42) (pc := 38) dX12_whyNotTwo_38 (by decide) ?_
          exact s_iret (pc := 42) dX12_whyNotTwo_42 rfl (fun _ _ q => q)
      · refine s_bipush (v := 9) (pc := 36) dX12_whyNotTwo_36 (by decide) ?_
        refine s_goto (tgt := 42) (pc := 38) dX12_whyNotTwo_38 (by decide) ?_
        exact s_iret (pc := 42) dX12_whyNotTwo_42 rfl (fun _ _ q => q)
    · refine s_iconst (v := 2) (pc := 16) dX12_whyNotTwo_16 (by decide) ?_
      refine s_goto (tgt := 42) (pc := 17) dX12_whyNotTwo_17 (by decide) ?_
      exact s_iret (pc := 42) dX12_whyNotTwo_42 rfl (fun _ _ q => q)
  · refine s_iconst (v := 2) (pc := 16) dX12_whyNotTwo_16 (by decide) ?_
    refine s_goto (tgt := 42) (pc := 17) dX12_whyNotTwo_17 (by decide) ?_
    exact s_iret (pc := 42) dX12_whyNotTwo_42 rfl (fun _ _ q => q)
theorem pX12_whyNotTwo_ok (hh : mo + 18 ≤ h.2.1) (s : RS) (a0 : Int32) (a1 : Int32) : ∀ x, pX12_whyNotTwo s a0 a1 = some x → aMet l 2 yX12_whyNotTwo cX12_whyNotTwo 3 (some .int) [.ref mo, .int a0, .int a1] (rH mo h s) (some (.int x)) (rH mo h s) := fun x hx => a_meth (ini := false) (y := yX12_whyNotTwo) (by decide +kernel) (fun q => by cases q) (fun _ => Nat.le_of_ble_eq_true rfl) (pX12_whyNotTwo_w hh s a0 a1) x hx _ _ ⟨rfl, rfl⟩
end
section
variable {l : Launch} {n0 S0 : Nat} {mo : Nat} {h : aH}
abbrev MX12_like : aM := (cX12_like, RX12, 4, (some .int), false)
def X12_like_x65 (l : Launch) (n0 S0 : Nat) (mo : Nat) (h : aH) (v1 : Int32) (v2 : Int32) (s : RS) : (Unit ⊕ Unit) → Option Value → aH → Prop := Sum.elim (fun (x : Unit) (r : Option Value) (h' : aH) => aEv l 7 MX12_like n0 S0 142 [] [] (rH mo h s) r h') (fun (x : Unit) (r : Option Value) (h' : aH) => aEv l 7 MX12_like n0 S0 150 [(0, .ref mo), (1, .int v1), (2, .int v2)] [] (rH mo h s) r h')
def X12_like_b65 (v1 : Int32) (v2 : Int32) (v3 : Int32) (s : RS) : Option (Int32 ⊕ (Unit ⊕ Unit)) :=
  if (s.1 25) ≤ v3 then
    some (.inr (.inr ()))
  else
    g_in v3 16 (
    g_in v3 16 (
    if (s.2.2.1 6 v3.toNatClampNeg) = (s.2.2.1 7 v3.toNatClampNeg) then
      g_in v3 16 (
      (pX12_toldBy s v1 (s.2.2.1 6 v3.toNatClampNeg) (2 : Int32)).bind fun x8 =>
      g_in v3 16 (
      (pX12_toldBy s v2 (s.2.2.1 6 v3.toNatClampNeg) (2 : Int32)).bind fun x9 =>
      if x8 = x9 then
        g_in v3 16 (
        (pX12_toldBy s v1 (s.2.2.1 6 v3.toNatClampNeg) (3 : Int32)).bind fun x10 =>
        g_in v3 16 (
        (pX12_toldBy s v2 (s.2.2.1 6 v3.toNatClampNeg) (3 : Int32)).bind fun x11 =>
        if x10 = x11 then
          thn (v3 + 1) fun x12 =>
          some (.inl x12)
        else
          some (.inr (.inl ()))))
      else
        some (.inr (.inl ()))))
    else
      some (.inr (.inl ()))))
theorem X12_like_b65_ok (hh : mo + 18 ≤ h.2.1) (v1 : Int32) (v2 : Int32) (v3 : Int32) (s : RS) : aS l 7 MX12_like n0 S0 (a_LΦ (X12_like_x65 l n0 S0 mo h v1 v2 s) l 7 MX12_like n0 S0 65 (fun (q : Int32) => [(0, .ref mo), (1, .int v1), (2, .int v2), (3, .int q)]) (fun _ => []) (fun (q : Int32) => rH mo h s)) 65 [(0, .ref mo), (1, .int v1), (2, .int v2), (3, .int v3)] [] (rH mo h s) (X12_like_b65 v1 v2 v3 s) := by
  unfold X12_like_b65
  refine s_iload_n (pc := 65) 3 dX12_like_65 rfl ?_
  refine s_aload_n (pc := 66) 0 dX12_like_66 rfl ?_
  refine rg_356 hh (pc := 67) dX12_like_67 rfl ?_
  refine s_icmp_ge (tgt := 150) (pc := 70) dX12_like_70 (by decide) (fun _ => ?_) (fun _ => ?_)
  · refine s_sub [0, 1, 2] rfl ?_
    exact s_ev (fun _ _ q => q)
  · refine s_aload_n (pc := 73) 0 dX12_like_73 rfl ?_
    refine rg_41 hh (pc := 74) dX12_like_74 rfl ?_
    refine s_iload_n (pc := 77) 3 dX12_like_77 rfl ?_
    refine rl_6 hh (pc := 78) dX12_like_78 ?_
    refine s_aload_n (pc := 79) 0 dX12_like_79 rfl ?_
    refine rg_44 hh (pc := 80) dX12_like_80 rfl ?_
    refine s_iload_n (pc := 83) 3 dX12_like_83 rfl ?_
    refine rl_7 hh (pc := 84) dX12_like_84 ?_
    refine s_icmp_ne (tgt := 142) (pc := 85) dX12_like_85 (by decide) (fun _ => ?_) (fun _ => ?_)
    · refine s_aload_n (pc := 88) 0 dX12_like_88 rfl ?_
      refine s_iload_n (pc := 89) 1 dX12_like_89 rfl ?_
      refine s_aload_n (pc := 90) 0 dX12_like_90 rfl ?_
      refine rg_41 hh (pc := 91) dX12_like_91 rfl ?_
      refine s_iload_n (pc := 94) 3 dX12_like_94 rfl ?_
      refine rl_6 hh (pc := 95) dX12_like_95 ?_
      refine s_iconst (v := 2) (pc := 96) dX12_like_96 (by decide) ?_
      refine s_callV (M := MX12_like) (As := [.int v1, .int (s.2.2.1 6 v3.toNatClampNeg), .int 2]) (st := []) (Ψ := fun (x : Int32) => (some (.int x), rH mo h s)) cv_X12_346 (by decide) (pc := 97) dX12_like_97 r_0 (r_lt (k := 0) hh (by decide)) rfl (Nat.le_of_ble_eq_true rfl) (fun x hx => pX12_toldBy_ok hh s v1 (s.2.2.1 6 v3.toNatClampNeg) (2 : Int32) x hx) rfl (fun x8 _ => ?_)
      refine s_aload_n (pc := 100) 0 dX12_like_100 rfl ?_
      refine s_iload_n (pc := 101) 2 dX12_like_101 rfl ?_
      refine s_aload_n (pc := 102) 0 dX12_like_102 rfl ?_
      refine rg_41 hh (pc := 103) dX12_like_103 rfl ?_
      refine s_iload_n (pc := 106) 3 dX12_like_106 rfl ?_
      refine rl_6 hh (pc := 107) dX12_like_107 ?_
      refine s_iconst (v := 2) (pc := 108) dX12_like_108 (by decide) ?_
      refine s_callV (M := MX12_like) (As := [.int v2, .int (s.2.2.1 6 v3.toNatClampNeg), .int 2]) (st := [.int x8]) (Ψ := fun (x : Int32) => (some (.int x), rH mo h s)) cv_X12_346 (by decide) (pc := 109) dX12_like_109 r_0 (r_lt (k := 0) hh (by decide)) rfl (Nat.le_of_ble_eq_true rfl) (fun x hx => pX12_toldBy_ok hh s v2 (s.2.2.1 6 v3.toNatClampNeg) (2 : Int32) x hx) rfl (fun x9 _ => ?_)
      refine s_icmp_ne (tgt := 142) (pc := 112) dX12_like_112 (by decide) (fun _ => ?_) (fun _ => ?_)
      · refine s_aload_n (pc := 115) 0 dX12_like_115 rfl ?_
        refine s_iload_n (pc := 116) 1 dX12_like_116 rfl ?_
        refine s_aload_n (pc := 117) 0 dX12_like_117 rfl ?_
        refine rg_41 hh (pc := 118) dX12_like_118 rfl ?_
        refine s_iload_n (pc := 121) 3 dX12_like_121 rfl ?_
        refine rl_6 hh (pc := 122) dX12_like_122 ?_
        refine s_iconst (v := 3) (pc := 123) dX12_like_123 (by decide) ?_
        refine s_callV (M := MX12_like) (As := [.int v1, .int (s.2.2.1 6 v3.toNatClampNeg), .int 3]) (st := []) (Ψ := fun (x : Int32) => (some (.int x), rH mo h s)) cv_X12_346 (by decide) (pc := 124) dX12_like_124 r_0 (r_lt (k := 0) hh (by decide)) rfl (Nat.le_of_ble_eq_true rfl) (fun x hx => pX12_toldBy_ok hh s v1 (s.2.2.1 6 v3.toNatClampNeg) (3 : Int32) x hx) rfl (fun x10 _ => ?_)
        refine s_aload_n (pc := 127) 0 dX12_like_127 rfl ?_
        refine s_iload_n (pc := 128) 2 dX12_like_128 rfl ?_
        refine s_aload_n (pc := 129) 0 dX12_like_129 rfl ?_
        refine rg_41 hh (pc := 130) dX12_like_130 rfl ?_
        refine s_iload_n (pc := 133) 3 dX12_like_133 rfl ?_
        refine rl_6 hh (pc := 134) dX12_like_134 ?_
        refine s_iconst (v := 3) (pc := 135) dX12_like_135 (by decide) ?_
        refine s_callV (M := MX12_like) (As := [.int v2, .int (s.2.2.1 6 v3.toNatClampNeg), .int 3]) (st := [.int x10]) (Ψ := fun (x : Int32) => (some (.int x), rH mo h s)) cv_X12_346 (by decide) (pc := 136) dX12_like_136 r_0 (r_lt (k := 0) hh (by decide)) rfl (Nat.le_of_ble_eq_true rfl) (fun x hx => pX12_toldBy_ok hh s v2 (s.2.2.1 6 v3.toNatClampNeg) (3 : Int32) x hx) rfl (fun x11 _ => ?_)
        refine s_icmp_eq (tgt := 144) (pc := 139) dX12_like_139 (by decide) (fun _ => ?_) (fun _ => ?_)
        · refine s_iincT (pc := 144) 3 (lv' := fun x12 => [(3, .int x12), (0, .ref mo), (1, .int v1), (2, .int v2)]) dX12_like_144 rfl rfl (by decide) (fun _ => rfl) (fun x12 => ?_)
          refine s_goto (tgt := 65) (pc := 147) dX12_like_147 (by decide) ?_
          refine s_sub [1, 2, 3, 0] rfl ?_
          exact s_ev (fun _ _ q => q)
        · refine s_sub [] rfl ?_
          exact s_ev (fun _ _ q => q)
      · refine s_sub [] rfl ?_
        exact s_ev (fun _ _ q => q)
    · refine s_sub [] rfl ?_
      exact s_ev (fun _ _ q => q)
def X12_like_x152 (l : Launch) (n0 S0 : Nat) (mo : Nat) (h : aH) (v1 : Int32) (v2 : Int32) (s : RS) : (Unit ⊕ Unit) → Option Value → aH → Prop := Sum.elim (fun (x : Unit) (r : Option Value) (h' : aH) => aEv l 7 MX12_like n0 S0 177 [] [] (rH mo h s) r h') (fun (x : Unit) (r : Option Value) (h' : aH) => aEv l 7 MX12_like n0 S0 185 [] [] (rH mo h s) r h')
def X12_like_b152 (v1 : Int32) (v2 : Int32) (v3 : Int32) (s : RS) : Option (Int32 ⊕ (Unit ⊕ Unit)) :=
  g_in (0 : Int32) 1800 (
  if (s.2.2.1 4 (0 : Int32).toNatClampNeg) ≤ v3 then
    some (.inr (.inr ()))
  else
    (pX12_quarrelers s v1 v3).bind fun x15 =>
    (pX12_quarrelers s v2 v3).bind fun x16 =>
    if x15 = x16 then
      thn (v3 + 1) fun x17 =>
      some (.inl x17)
    else
      some (.inr (.inl ())))
theorem X12_like_b152_ok (hh : mo + 18 ≤ h.2.1) (v1 : Int32) (v2 : Int32) (v3 : Int32) (s : RS) : aS l 7 MX12_like n0 S0 (a_LΦ (X12_like_x152 l n0 S0 mo h v1 v2 s) l 7 MX12_like n0 S0 152 (fun (q : Int32) => [(0, .ref mo), (1, .int v1), (2, .int v2), (3, .int q)]) (fun _ => []) (fun (q : Int32) => rH mo h s)) 152 [(0, .ref mo), (1, .int v1), (2, .int v2), (3, .int v3)] [] (rH mo h s) (X12_like_b152 v1 v2 v3 s) := by
  unfold X12_like_b152
  refine s_iload_n (pc := 152) 3 dX12_like_152 rfl ?_
  refine s_aload_n (pc := 153) 0 dX12_like_153 rfl ?_
  refine rg_35 hh (pc := 154) dX12_like_154 rfl ?_
  refine s_iconst (v := 0) (pc := 157) dX12_like_157 (by decide) ?_
  refine rl_4 hh (pc := 158) dX12_like_158 ?_
  refine s_icmp_ge (tgt := 185) (pc := 159) dX12_like_159 (by decide) (fun _ => ?_) (fun _ => ?_)
  · refine s_sub [] rfl ?_
    exact s_ev (fun _ _ q => q)
  · refine s_aload_n (pc := 162) 0 dX12_like_162 rfl ?_
    refine s_iload_n (pc := 163) 1 dX12_like_163 rfl ?_
    refine s_iload_n (pc := 164) 3 dX12_like_164 rfl ?_
    refine s_callV (M := MX12_like) (As := [.int v1, .int v3]) (st := []) (Ψ := fun (x : Int32) => (some (.int x), rH mo h s)) cv_X12_334 (by decide) (pc := 165) dX12_like_165 r_0 (r_lt (k := 0) hh (by decide)) rfl (Nat.le_of_ble_eq_true rfl) (fun x hx => pX12_quarrelers_ok hh s v1 v3 x hx) rfl (fun x15 _ => ?_)
    refine s_aload_n (pc := 168) 0 dX12_like_168 rfl ?_
    refine s_iload_n (pc := 169) 2 dX12_like_169 rfl ?_
    refine s_iload_n (pc := 170) 3 dX12_like_170 rfl ?_
    refine s_callV (M := MX12_like) (As := [.int v2, .int v3]) (st := [.int x15]) (Ψ := fun (x : Int32) => (some (.int x), rH mo h s)) cv_X12_334 (by decide) (pc := 171) dX12_like_171 r_0 (r_lt (k := 0) hh (by decide)) rfl (Nat.le_of_ble_eq_true rfl) (fun x hx => pX12_quarrelers_ok hh s v2 v3 x hx) rfl (fun x16 _ => ?_)
    refine s_icmp_eq (tgt := 179) (pc := 174) dX12_like_174 (by decide) (fun _ => ?_) (fun _ => ?_)
    · refine s_iincT (pc := 179) 3 (lv' := fun x17 => [(3, .int x17), (0, .ref mo), (1, .int v1), (2, .int v2)]) dX12_like_179 rfl rfl (by decide) (fun _ => rfl) (fun x17 => ?_)
      refine s_goto (tgt := 152) (pc := 182) dX12_like_182 (by decide) ?_
      refine s_sub [1, 2, 3, 0] rfl ?_
      exact s_ev (fun _ _ q => q)
    · refine s_sub [] rfl ?_
      exact s_ev (fun _ _ q => q)
def pX12_like (s : RS) (a0 : Int32) (a1 : Int32) : Option (Int32 × RS) :=
  thn (uI s 1 (0 : Int32)) fun s1 =>
  (pX12_whyNotTwo s1 a0 a1).bind fun x2 =>
  thn (uI s1 0 x2) fun s3 =>
  if (s3.1 0) ≤ 0 then
    (pX12_listOf_7 s3 a0).bind fun x4 =>
    thn (uI x4.2 25 x4.1) fun s5 =>
    (pX12_listOf_8 s5 a1).bind fun x6 =>
    thn (uI x6.2 26 x6.1) fun s7 =>
    if (s7.1 25) = (s7.1 26) then
      (a_loop (fun (q : Int32) => X12_like_b65 a0 a1 q s7) FU (0 : Int32)).bind (Sum.elim (fun (t13 : Unit) =>
          some ((0 : Int32), s7))
        (fun (t14 : Unit) =>
          (a_loop (fun (q : Int32) => X12_like_b152 a0 a1 q s7) FU (0 : Int32)).bind (Sum.elim (fun (t18 : Unit) =>
              some ((0 : Int32), s7))
            (fun (t19 : Unit) =>
              some ((1 : Int32), s7)))))
    else
      some ((0 : Int32), s7)
  else
    some ((-1 : Int32), s3)
theorem pX12_like_w (hh : mo + 18 ≤ h.2.1) (s : RS) (a0 : Int32) (a1 : Int32) : aS l 7 MX12_like n0 S0 (oΦ (fun (x : Int32 × RS) => (some (.int x.1), rH mo h x.2))) 0 [(0, .ref mo), (1, .int a0), (2, .int a1)] [] (rH mo h s) (pX12_like s a0 a1) := by
  unfold pX12_like
  refine s_aload_n (pc := 0) 0 dX12_like_0 rfl ?_
  refine s_iconst (v := 0) (pc := 1) dX12_like_1 (by decide) ?_
  refine rp_75 hh (pc := 2) dX12_like_2 rfl (fun s1 => ?_)
  refine s_aload_n (pc := 5) 0 dX12_like_5 rfl ?_
  refine s_aload_n (pc := 6) 0 dX12_like_6 rfl ?_
  refine s_iload_n (pc := 7) 1 dX12_like_7 rfl ?_
  refine s_iload_n (pc := 8) 2 dX12_like_8 rfl ?_
  refine s_callV (M := MX12_like) (As := [.int a0, .int a1]) (st := [.ref mo]) (Ψ := fun (x : Int32) => (some (.int x), rH mo h s1)) cv_X12_365 (by decide) (pc := 9) dX12_like_9 r_0 (r_lt (k := 0) hh (by decide)) rfl (Nat.le_of_ble_eq_true rfl) (fun x hx => pX12_whyNotTwo_ok hh s1 a0 a1 x hx) rfl (fun x2 _ => ?_)
  refine rp_78 hh (pc := 12) dX12_like_12 rfl (fun s3 => ?_)
  refine s_aload_n (pc := 15) 0 dX12_like_15 rfl ?_
  refine rg_78 hh (pc := 16) dX12_like_16 rfl ?_
  refine s_if_le (tgt := 24) (pc := 19) dX12_like_19 (by decide) (fun _ => ?_) (fun _ => ?_)
  · refine s_aload_n (pc := 24) 0 dX12_like_24 rfl ?_
    refine s_aload_n (pc := 25) 0 dX12_like_25 rfl ?_
    refine s_iload_n (pc := 26) 1 dX12_like_26 rfl ?_
    refine s_aload_n (pc := 27) 0 dX12_like_27 rfl ?_
    refine rg_41 hh (pc := 28) dX12_like_28 rfl ?_
    refine s_callV (M := MX12_like) (As := [.int a0, .ref (mo + 7)]) (st := [.ref mo]) (Ψ := fun (x : Int32 × RS) => (some (.int x.1), rH mo h x.2)) cv_X12_352 (by decide) (pc := 31) dX12_like_31 r_0 (r_lt (k := 0) hh (by decide)) rfl (Nat.le_of_ble_eq_true rfl) (fun x hx => pX12_listOf_7_ok hh s3 a0 x hx) rfl (fun x4 _ => ?_)
    refine rp_356 hh (pc := 34) dX12_like_34 rfl (fun s5 => ?_)
    refine s_aload_n (pc := 37) 0 dX12_like_37 rfl ?_
    refine s_aload_n (pc := 38) 0 dX12_like_38 rfl ?_
    refine s_iload_n (pc := 39) 2 dX12_like_39 rfl ?_
    refine s_aload_n (pc := 40) 0 dX12_like_40 rfl ?_
    refine rg_44 hh (pc := 41) dX12_like_41 rfl ?_
    refine s_callV (M := MX12_like) (As := [.int a1, .ref (mo + 8)]) (st := [.ref mo]) (Ψ := fun (x : Int32 × RS) => (some (.int x.1), rH mo h x.2)) cv_X12_352 (by decide) (pc := 44) dX12_like_44 r_0 (r_lt (k := 0) hh (by decide)) rfl (Nat.le_of_ble_eq_true rfl) (fun x hx => pX12_listOf_8_ok hh s5 a1 x hx) rfl (fun x6 _ => ?_)
    refine rp_368 hh (pc := 47) dX12_like_47 rfl (fun s7 => ?_)
    refine s_aload_n (pc := 50) 0 dX12_like_50 rfl ?_
    refine rg_356 hh (pc := 51) dX12_like_51 rfl ?_
    refine s_aload_n (pc := 54) 0 dX12_like_54 rfl ?_
    refine rg_368 hh (pc := 55) dX12_like_55 rfl ?_
    refine s_icmp_eq (tgt := 63) (pc := 58) dX12_like_58 (by decide) (fun _ => ?_) (fun _ => ?_)
    · refine s_iconst (v := 0) (pc := 63) dX12_like_63 (by decide) ?_
      refine s_istore_n (lv' := [(3, .int 0), (0, .ref mo), (1, .int a0), (2, .int a1)]) (pc := 64) dX12_like_64 (by decide) rfl ?_
      refine s_bind (Ψ := X12_like_x65 l n0 S0 mo h a0 a1 s7) ?_ ?_
      · refine s_sub [1, 2, 3, 0] rfl ?_
        exact s_loop (lvf := fun (q : Int32) => [(0, .ref mo), (1, .int a0), (2, .int a1), (3, .int q)]) (stf := fun _ => []) (hf := fun (q : Int32) => rH mo h s7) (fun q => X12_like_b65_ok hh a0 a1 q s7) FU (0 : Int32)
      · intro x z r h' hz hr
        rcases x with t13 | t14
        · refine (?_ : aS l 7 MX12_like n0 S0 (oΦ (fun (x : Int32 × RS) => (some (.int x.1), rH mo h x.2))) 142 [] [] (rH mo h s7) _) z (show _ = some z from hz) r h' hr
          refine s_iconst (v := 0) (pc := 142) dX12_like_142 (by decide) ?_
          exact s_iret (pc := 143) dX12_like_143 rfl (fun _ _ q => q)
        · refine (?_ : aS l 7 MX12_like n0 S0 (oΦ (fun (x : Int32 × RS) => (some (.int x.1), rH mo h x.2))) 150 [(0, .ref mo), (1, .int a0), (2, .int a1)] [] (rH mo h s7) _) z (show _ = some z from hz) r h' hr
          refine s_iconst (v := 0) (pc := 150) dX12_like_150 (by decide) ?_
          refine s_istore_n (lv' := [(3, .int 0), (0, .ref mo), (1, .int a0), (2, .int a1)]) (pc := 151) dX12_like_151 (by decide) rfl ?_
          refine s_bind (Ψ := X12_like_x152 l n0 S0 mo h a0 a1 s7) ?_ ?_
          · refine s_sub [1, 2, 3, 0] rfl ?_
            exact s_loop (lvf := fun (q : Int32) => [(0, .ref mo), (1, .int a0), (2, .int a1), (3, .int q)]) (stf := fun _ => []) (hf := fun (q : Int32) => rH mo h s7) (fun q => X12_like_b152_ok hh a0 a1 q s7) FU (0 : Int32)
          · intro x z r h' hz hr
            rcases x with t18 | t19
            · refine (?_ : aS l 7 MX12_like n0 S0 (oΦ (fun (x : Int32 × RS) => (some (.int x.1), rH mo h x.2))) 177 [] [] (rH mo h s7) _) z (show _ = some z from hz) r h' hr
              refine s_iconst (v := 0) (pc := 177) dX12_like_177 (by decide) ?_
              exact s_iret (pc := 178) dX12_like_178 rfl (fun _ _ q => q)
            · refine (?_ : aS l 7 MX12_like n0 S0 (oΦ (fun (x : Int32 × RS) => (some (.int x.1), rH mo h x.2))) 185 [] [] (rH mo h s7) _) z (show _ = some z from hz) r h' hr
              refine s_iconst (v := 1) (pc := 185) dX12_like_185 (by decide) ?_
              exact s_iret (pc := 186) dX12_like_186 rfl (fun _ _ q => q)
    · refine s_iconst (v := 0) (pc := 61) dX12_like_61 (by decide) ?_
      exact s_iret (pc := 62) dX12_like_62 rfl (fun _ _ q => q)
  · refine s_iconst (v := (-1)) (pc := 22) dX12_like_22 (by decide) ?_
    exact s_iret (pc := 23) dX12_like_23 rfl (fun _ _ q => q)
theorem pX12_like_ok (hh : mo + 18 ≤ h.2.1) (s : RS) (a0 : Int32) (a1 : Int32) : ∀ x, pX12_like s a0 a1 = some x → aMet l 7 yX12_like cX12_like 4 (some .int) [.ref mo, .int a0, .int a1] (rH mo h s) (some (.int x.1)) (rH mo h x.2) := fun x hx => a_meth (ini := false) (y := yX12_like) (by decide +kernel) (fun q => by cases q) (fun _ => Nat.le_of_ble_eq_true rfl) (pX12_like_w hh s a0 a1) x hx _ _ ⟨rfl, rfl⟩
end
section
variable {l : Launch} {n0 S0 : Nat} {mo : Nat} {h : aH}
abbrev MX12_apart : aM := (cX12_apart, RX12, 4, (some .int), false)
def X12_apart_x52 (l : Launch) (n0 S0 : Nat) (mo : Nat) (h : aH) (v1 : Int32) (v2 : Int32) (s : RS) : (Int32 ⊕ Unit) → Option Value → aH → Prop := Sum.elim (fun (x : Int32) (r : Option Value) (h' : aH) => aEv l 7 MX12_apart n0 S0 126 [(3, .int x)] [] (rH mo h s) r h') (fun (x : Unit) (r : Option Value) (h' : aH) => aEv l 7 MX12_apart n0 S0 134 [(0, .ref mo)] [] (rH mo h s) r h')
def X12_apart_j68 (v1 : Int32) (v2 : Int32) (v3 : Int32) (s : RS) : Option (Int32 ⊕ (Int32 ⊕ Unit)) :=
  if (s.1 25) ≤ v3 then
    some (.inr (.inl v3))
  else
    if (s.1 26) ≤ v3 then
      some (.inr (.inl v3))
    else
      g_in v3 16 (
      g_in v3 16 (
      if (s.2.2.1 6 v3.toNatClampNeg) = (s.2.2.1 7 v3.toNatClampNeg) then
        g_in v3 16 (
        (pX12_toldBy s v1 (s.2.2.1 6 v3.toNatClampNeg) (2 : Int32)).bind fun x8 =>
        g_in v3 16 (
        (pX12_toldBy s v2 (s.2.2.1 6 v3.toNatClampNeg) (2 : Int32)).bind fun x9 =>
        if x8 = x9 then
          thn (v3 + 1) fun x10 =>
          some (.inl x10)
        else
          some (.inr (.inl v3))))
      else
        some (.inr (.inl v3))))
theorem X12_apart_j68_ok (hh : mo + 18 ≤ h.2.1) (v1 : Int32) (v2 : Int32) (v3 : Int32) (s : RS) : aS l 7 MX12_apart n0 S0 (a_LΦ (X12_apart_x52 l n0 S0 mo h v1 v2 s) l 7 MX12_apart n0 S0 52 (fun (q : Int32) => [(0, .ref mo), (1, .int v1), (2, .int v2), (3, .int q)]) (fun _ => []) (fun (q : Int32) => rH mo h s)) 68 [(0, .ref mo), (1, .int v1), (2, .int v2), (3, .int v3)] [] (rH mo h s) (X12_apart_j68 v1 v2 v3 s) := by
  unfold X12_apart_j68
  refine s_iload_n (pc := 68) 3 dX12_apart_68 rfl ?_
  refine s_aload_n (pc := 69) 0 dX12_apart_69 rfl ?_
  refine rg_356 hh (pc := 70) dX12_apart_70 rfl ?_
  refine s_icmp_ge (tgt := 126) (pc := 73) dX12_apart_73 (by decide) (fun _ => ?_) (fun _ => ?_)
  · refine s_sub [3] rfl ?_
    exact s_ev (fun _ _ q => q)
  · refine s_iload_n (pc := 76) 3 dX12_apart_76 rfl ?_
    refine s_aload_n (pc := 77) 0 dX12_apart_77 rfl ?_
    refine rg_368 hh (pc := 78) dX12_apart_78 rfl ?_
    refine s_icmp_ge (tgt := 126) (pc := 81) dX12_apart_81 (by decide) (fun _ => ?_) (fun _ => ?_)
    · refine s_sub [3] rfl ?_
      exact s_ev (fun _ _ q => q)
    · refine s_aload_n (pc := 84) 0 dX12_apart_84 rfl ?_
      refine rg_41 hh (pc := 85) dX12_apart_85 rfl ?_
      refine s_iload_n (pc := 88) 3 dX12_apart_88 rfl ?_
      refine rl_6 hh (pc := 89) dX12_apart_89 ?_
      refine s_aload_n (pc := 90) 0 dX12_apart_90 rfl ?_
      refine rg_44 hh (pc := 91) dX12_apart_91 rfl ?_
      refine s_iload_n (pc := 94) 3 dX12_apart_94 rfl ?_
      refine rl_7 hh (pc := 95) dX12_apart_95 ?_
      refine s_icmp_ne (tgt := 126) (pc := 96) dX12_apart_96 (by decide) (fun _ => ?_) (fun _ => ?_)
      · refine s_aload_n (pc := 99) 0 dX12_apart_99 rfl ?_
        refine s_iload_n (pc := 100) 1 dX12_apart_100 rfl ?_
        refine s_aload_n (pc := 101) 0 dX12_apart_101 rfl ?_
        refine rg_41 hh (pc := 102) dX12_apart_102 rfl ?_
        refine s_iload_n (pc := 105) 3 dX12_apart_105 rfl ?_
        refine rl_6 hh (pc := 106) dX12_apart_106 ?_
        refine s_iconst (v := 2) (pc := 107) dX12_apart_107 (by decide) ?_
        refine s_callV (M := MX12_apart) (As := [.int v1, .int (s.2.2.1 6 v3.toNatClampNeg), .int 2]) (st := []) (Ψ := fun (x : Int32) => (some (.int x), rH mo h s)) cv_X12_346 (by decide) (pc := 108) dX12_apart_108 r_0 (r_lt (k := 0) hh (by decide)) rfl (Nat.le_of_ble_eq_true rfl) (fun x hx => pX12_toldBy_ok hh s v1 (s.2.2.1 6 v3.toNatClampNeg) (2 : Int32) x hx) rfl (fun x8 _ => ?_)
        refine s_aload_n (pc := 111) 0 dX12_apart_111 rfl ?_
        refine s_iload_n (pc := 112) 2 dX12_apart_112 rfl ?_
        refine s_aload_n (pc := 113) 0 dX12_apart_113 rfl ?_
        refine rg_41 hh (pc := 114) dX12_apart_114 rfl ?_
        refine s_iload_n (pc := 117) 3 dX12_apart_117 rfl ?_
        refine rl_6 hh (pc := 118) dX12_apart_118 ?_
        refine s_iconst (v := 2) (pc := 119) dX12_apart_119 (by decide) ?_
        refine s_callV (M := MX12_apart) (As := [.int v2, .int (s.2.2.1 6 v3.toNatClampNeg), .int 2]) (st := [.int x8]) (Ψ := fun (x : Int32) => (some (.int x), rH mo h s)) cv_X12_346 (by decide) (pc := 120) dX12_apart_120 r_0 (r_lt (k := 0) hh (by decide)) rfl (Nat.le_of_ble_eq_true rfl) (fun x hx => pX12_toldBy_ok hh s v2 (s.2.2.1 6 v3.toNatClampNeg) (2 : Int32) x hx) rfl (fun x9 _ => ?_)
        refine s_icmp_eq (tgt := 128) (pc := 123) dX12_apart_123 (by decide) (fun _ => ?_) (fun _ => ?_)
        · refine s_iincT (pc := 128) 3 (lv' := fun x10 => [(3, .int x10), (0, .ref mo), (1, .int v1), (2, .int v2)]) dX12_apart_128 rfl rfl (by decide) (fun _ => rfl) (fun x10 => ?_)
          refine s_goto (tgt := 52) (pc := 131) dX12_apart_131 (by decide) ?_
          refine s_sub [1, 2, 3, 0] rfl ?_
          exact s_ev (fun _ _ q => q)
        · refine s_sub [3] rfl ?_
          exact s_ev (fun _ _ q => q)
      · refine s_sub [3] rfl ?_
        exact s_ev (fun _ _ q => q)
def X12_apart_b52 (v1 : Int32) (v2 : Int32) (v3 : Int32) (s : RS) : Option (Int32 ⊕ (Int32 ⊕ Unit)) :=
  if v3 < (s.1 25) then
    X12_apart_j68 v1 v2 v3 s
  else
    if (s.1 26) ≤ v3 then
      some (.inr (.inr ()))
    else
      X12_apart_j68 v1 v2 v3 s
theorem X12_apart_b52_ok (hh : mo + 18 ≤ h.2.1) (v1 : Int32) (v2 : Int32) (v3 : Int32) (s : RS) : aS l 7 MX12_apart n0 S0 (a_LΦ (X12_apart_x52 l n0 S0 mo h v1 v2 s) l 7 MX12_apart n0 S0 52 (fun (q : Int32) => [(0, .ref mo), (1, .int v1), (2, .int v2), (3, .int q)]) (fun _ => []) (fun (q : Int32) => rH mo h s)) 52 [(0, .ref mo), (1, .int v1), (2, .int v2), (3, .int v3)] [] (rH mo h s) (X12_apart_b52 v1 v2 v3 s) := by
  unfold X12_apart_b52
  refine s_iload_n (pc := 52) 3 dX12_apart_52 rfl ?_
  refine s_aload_n (pc := 53) 0 dX12_apart_53 rfl ?_
  refine rg_356 hh (pc := 54) dX12_apart_54 rfl ?_
  refine s_icmp_lt (tgt := 68) (pc := 57) dX12_apart_57 (by decide) (fun _ => ?_) (fun _ => ?_)
  · exact X12_apart_j68_ok hh v1 v2 v3 s
  · refine s_iload_n (pc := 60) 3 dX12_apart_60 rfl ?_
    refine s_aload_n (pc := 61) 0 dX12_apart_61 rfl ?_
    refine rg_368 hh (pc := 62) dX12_apart_62 rfl ?_
    refine s_icmp_ge (tgt := 134) (pc := 65) dX12_apart_65 (by decide) (fun _ => ?_) (fun _ => ?_)
    · refine s_sub [0] rfl ?_
      exact s_ev (fun _ _ q => q)
    · exact X12_apart_j68_ok hh v1 v2 v3 s
def pX12_apart (s : RS) (a0 : Int32) (a1 : Int32) : Option (Int32 × RS) :=
  thn (uI s 1 (0 : Int32)) fun s1 =>
  (pX12_whyNotTwo s1 a0 a1).bind fun x2 =>
  thn (uI s1 0 x2) fun s3 =>
  if (s3.1 0) ≤ 0 then
    (pX12_listOf_7 s3 a0).bind fun x4 =>
    thn (uI x4.2 25 x4.1) fun s5 =>
    (pX12_listOf_8 s5 a1).bind fun x6 =>
    thn (uI x6.2 26 x6.1) fun s7 =>
    (a_loop (fun (q : Int32) => X12_apart_b52 a0 a1 q s7) FU (0 : Int32)).bind (Sum.elim (fun (t11 : Int32) =>
        some (t11, s7))
      (fun (t12 : Unit) =>
        (pX12_refuse s7 (8 : Int32)).bind fun x13 =>
        some (x13.1, x13.2)))
  else
    some ((-1 : Int32), s3)
theorem pX12_apart_w (hh : mo + 18 ≤ h.2.1) (s : RS) (a0 : Int32) (a1 : Int32) : aS l 7 MX12_apart n0 S0 (oΦ (fun (x : Int32 × RS) => (some (.int x.1), rH mo h x.2))) 0 [(0, .ref mo), (1, .int a0), (2, .int a1)] [] (rH mo h s) (pX12_apart s a0 a1) := by
  unfold pX12_apart
  refine s_aload_n (pc := 0) 0 dX12_apart_0 rfl ?_
  refine s_iconst (v := 0) (pc := 1) dX12_apart_1 (by decide) ?_
  refine rp_75 hh (pc := 2) dX12_apart_2 rfl (fun s1 => ?_)
  refine s_aload_n (pc := 5) 0 dX12_apart_5 rfl ?_
  refine s_aload_n (pc := 6) 0 dX12_apart_6 rfl ?_
  refine s_iload_n (pc := 7) 1 dX12_apart_7 rfl ?_
  refine s_iload_n (pc := 8) 2 dX12_apart_8 rfl ?_
  refine s_callV (M := MX12_apart) (As := [.int a0, .int a1]) (st := [.ref mo]) (Ψ := fun (x : Int32) => (some (.int x), rH mo h s1)) cv_X12_365 (by decide) (pc := 9) dX12_apart_9 r_0 (r_lt (k := 0) hh (by decide)) rfl (Nat.le_of_ble_eq_true rfl) (fun x hx => pX12_whyNotTwo_ok hh s1 a0 a1 x hx) rfl (fun x2 _ => ?_)
  refine rp_78 hh (pc := 12) dX12_apart_12 rfl (fun s3 => ?_)
  refine s_aload_n (pc := 15) 0 dX12_apart_15 rfl ?_
  refine rg_78 hh (pc := 16) dX12_apart_16 rfl ?_
  refine s_if_le (tgt := 24) (pc := 19) dX12_apart_19 (by decide) (fun _ => ?_) (fun _ => ?_)
  · refine s_aload_n (pc := 24) 0 dX12_apart_24 rfl ?_
    refine s_aload_n (pc := 25) 0 dX12_apart_25 rfl ?_
    refine s_iload_n (pc := 26) 1 dX12_apart_26 rfl ?_
    refine s_aload_n (pc := 27) 0 dX12_apart_27 rfl ?_
    refine rg_41 hh (pc := 28) dX12_apart_28 rfl ?_
    refine s_callV (M := MX12_apart) (As := [.int a0, .ref (mo + 7)]) (st := [.ref mo]) (Ψ := fun (x : Int32 × RS) => (some (.int x.1), rH mo h x.2)) cv_X12_352 (by decide) (pc := 31) dX12_apart_31 r_0 (r_lt (k := 0) hh (by decide)) rfl (Nat.le_of_ble_eq_true rfl) (fun x hx => pX12_listOf_7_ok hh s3 a0 x hx) rfl (fun x4 _ => ?_)
    refine rp_356 hh (pc := 34) dX12_apart_34 rfl (fun s5 => ?_)
    refine s_aload_n (pc := 37) 0 dX12_apart_37 rfl ?_
    refine s_aload_n (pc := 38) 0 dX12_apart_38 rfl ?_
    refine s_iload_n (pc := 39) 2 dX12_apart_39 rfl ?_
    refine s_aload_n (pc := 40) 0 dX12_apart_40 rfl ?_
    refine rg_44 hh (pc := 41) dX12_apart_41 rfl ?_
    refine s_callV (M := MX12_apart) (As := [.int a1, .ref (mo + 8)]) (st := [.ref mo]) (Ψ := fun (x : Int32 × RS) => (some (.int x.1), rH mo h x.2)) cv_X12_352 (by decide) (pc := 44) dX12_apart_44 r_0 (r_lt (k := 0) hh (by decide)) rfl (Nat.le_of_ble_eq_true rfl) (fun x hx => pX12_listOf_8_ok hh s5 a1 x hx) rfl (fun x6 _ => ?_)
    refine rp_368 hh (pc := 47) dX12_apart_47 rfl (fun s7 => ?_)
    refine s_iconst (v := 0) (pc := 50) dX12_apart_50 (by decide) ?_
    refine s_istore_n (lv' := [(3, .int 0), (0, .ref mo), (1, .int a0), (2, .int a1)]) (pc := 51) dX12_apart_51 (by decide) rfl ?_
    refine s_bind (Ψ := X12_apart_x52 l n0 S0 mo h a0 a1 s7) ?_ ?_
    · refine s_sub [1, 2, 3, 0] rfl ?_
      exact s_loop (lvf := fun (q : Int32) => [(0, .ref mo), (1, .int a0), (2, .int a1), (3, .int q)]) (stf := fun _ => []) (hf := fun (q : Int32) => rH mo h s7) (fun q => X12_apart_b52_ok hh a0 a1 q s7) FU (0 : Int32)
    · intro x z r h' hz hr
      rcases x with t11 | t12
      · refine (?_ : aS l 7 MX12_apart n0 S0 (oΦ (fun (x : Int32 × RS) => (some (.int x.1), rH mo h x.2))) 126 [(3, .int t11)] [] (rH mo h s7) _) z (show _ = some z from hz) r h' hr
        refine s_iload_n (pc := 126) 0 dX12_apart_126 rfl ?_
        exact s_iret (pc := 127) dX12_apart_127 rfl (fun _ _ q => q)
      · refine (?_ : aS l 7 MX12_apart n0 S0 (oΦ (fun (x : Int32 × RS) => (some (.int x.1), rH mo h x.2))) 134 [(0, .ref mo)] [] (rH mo h s7) _) z (show _ = some z from hz) r h' hr
        refine s_aload_n (pc := 134) 0 dX12_apart_134 rfl ?_
        refine s_bipush (v := 8) (pc := 135) dX12_apart_135 (by decide) ?_
        refine s_callV (M := MX12_apart) (As := [.int 8]) (st := []) (Ψ := fun (x : Int32 × RS) => (some (.int x.1), rH mo h x.2)) cv_X12_299 (by decide) (pc := 137) dX12_apart_137 r_0 (r_lt (k := 0) hh (by decide)) rfl (Nat.le_of_ble_eq_true rfl) (fun x hx => pX12_refuse_ok hh s7 (8 : Int32) x hx) rfl (fun x13 _ => ?_)
        exact s_iret (pc := 140) dX12_apart_140 rfl (fun _ _ q => q)
  · refine s_iconst (v := (-1)) (pc := 22) dX12_apart_22 (by decide) ?_
    exact s_iret (pc := 23) dX12_apart_23 rfl (fun _ _ q => q)
theorem pX12_apart_ok (hh : mo + 18 ≤ h.2.1) (s : RS) (a0 : Int32) (a1 : Int32) : ∀ x, pX12_apart s a0 a1 = some x → aMet l 7 yX12_apart cX12_apart 4 (some .int) [.ref mo, .int a0, .int a1] (rH mo h s) (some (.int x.1)) (rH mo h x.2) := fun x hx => a_meth (ini := false) (y := yX12_apart) (by decide +kernel) (fun q => by cases q) (fun _ => Nat.le_of_ble_eq_true rfl) (pX12_apart_w hh s a0 a1) x hx _ _ ⟨rfl, rfl⟩
end
section
variable {l : Launch} {n0 S0 : Nat} {mo : Nat} {h : aH}
abbrev MX12_quarrels : aM := (cX12_quarrels, RX12, 2, (some .int), false)
def pX12_quarrels (s : RS) (a0 : Int32) : Option (Int32 × RS) :=
  thn (uI s 1 (0 : Int32)) fun s1 =>
  thn (uI s1 0 (0 : Int32)) fun s2 =>
  (pX12_isSet s2 a0).bind fun x3 =>
  if x3 = true then
    (pX12_quarrelsIn s2 a0).bind fun x5 =>
    some (x5, s2)
  else
    (pX12_refuse s2 (2 : Int32)).bind fun x4 =>
    some (x4.1, x4.2)
theorem pX12_quarrels_w (hh : mo + 18 ≤ h.2.1) (s : RS) (a0 : Int32) : aS l 6 MX12_quarrels n0 S0 (oΦ (fun (x : Int32 × RS) => (some (.int x.1), rH mo h x.2))) 0 [(0, .ref mo), (1, .int a0)] [] (rH mo h s) (pX12_quarrels s a0) := by
  unfold pX12_quarrels
  refine s_aload_n (pc := 0) 0 dX12_quarrels_0 rfl ?_
  refine s_iconst (v := 0) (pc := 1) dX12_quarrels_1 (by decide) ?_
  refine rp_75 hh (pc := 2) dX12_quarrels_2 rfl (fun s1 => ?_)
  refine s_aload_n (pc := 5) 0 dX12_quarrels_5 rfl ?_
  refine s_iconst (v := 0) (pc := 6) dX12_quarrels_6 (by decide) ?_
  refine rp_78 hh (pc := 7) dX12_quarrels_7 rfl (fun s2 => ?_)
  refine s_aload_n (pc := 10) 0 dX12_quarrels_10 rfl ?_
  refine s_iload_n (pc := 11) 1 dX12_quarrels_11 rfl ?_
  refine s_callV (M := MX12_quarrels) (As := [.int a0]) (st := []) (Ψ := fun (x : Bool) => (some (.int (b2i x)), rH mo h s2)) cv_X12_319 (by decide) (pc := 12) dX12_quarrels_12 r_0 (r_lt (k := 0) hh (by decide)) rfl (Nat.le_of_ble_eq_true rfl) (fun x hx => pX12_isSet_ok hh s2 a0 x hx) rfl (fun x3 _ => ?_)
  refine s_if_eqB (tgt := 26) (pc := 15) dX12_quarrels_15 (by decide) (fun _ => ?_) (fun _ => ?_)
  · refine s_aload_n (pc := 18) 0 dX12_quarrels_18 rfl ?_
    refine s_iload_n (pc := 19) 1 dX12_quarrels_19 rfl ?_
    refine s_callV (M := MX12_quarrels) (As := [.int a0]) (st := []) (Ψ := fun (x : Int32) => (some (.int x), rH mo h s2)) cv_X12_371 (by decide) (pc := 20) dX12_quarrels_20 r_0 (r_lt (k := 0) hh (by decide)) rfl (Nat.le_of_ble_eq_true rfl) (fun x hx => pX12_quarrelsIn_ok hh s2 a0 x hx) rfl (fun x5 _ => ?_)
    refine s_goto (tgt := 31) (pc := 23) dX12_quarrels_23 (by decide) ?_
    exact s_iret (pc := 31) dX12_quarrels_31 rfl (fun _ _ q => q)
  · refine s_aload_n (pc := 26) 0 dX12_quarrels_26 rfl ?_
    refine s_iconst (v := 2) (pc := 27) dX12_quarrels_27 (by decide) ?_
    refine s_callV (M := MX12_quarrels) (As := [.int 2]) (st := []) (Ψ := fun (x : Int32 × RS) => (some (.int x.1), rH mo h x.2)) cv_X12_299 (by decide) (pc := 28) dX12_quarrels_28 r_0 (r_lt (k := 0) hh (by decide)) rfl (Nat.le_of_ble_eq_true rfl) (fun x hx => pX12_refuse_ok hh s2 (2 : Int32) x hx) rfl (fun x4 _ => ?_)
    exact s_iret (pc := 31) dX12_quarrels_31 rfl (fun _ _ q => q)
theorem pX12_quarrels_ok (hh : mo + 18 ≤ h.2.1) (s : RS) (a0 : Int32) : ∀ x, pX12_quarrels s a0 = some x → aMet l 6 yX12_quarrels cX12_quarrels 2 (some .int) [.ref mo, .int a0] (rH mo h s) (some (.int x.1)) (rH mo h x.2) := fun x hx => a_meth (ini := false) (y := yX12_quarrels) (by decide +kernel) (fun q => by cases q) (fun _ => Nat.le_of_ble_eq_true rfl) (pX12_quarrels_w hh s a0) x hx _ _ ⟨rfl, rfl⟩
end
section
variable {l : Launch} {n0 S0 : Nat} {mo : Nat} {h : aH}
abbrev MX12_with : aM := (cX12_with, RX12, 3, (some .int), false)
def X12_with_j26 (s : RS) : Option (Int32 × RS) :=
  (pX12_refuse s (2 : Int32)).bind fun x4 =>
  some (x4.1, x4.2)
theorem X12_with_j26_ok (hh : mo + 18 ≤ h.2.1) (s : RS) : aS l 5 MX12_with n0 S0 (oΦ (fun (x : Int32 × RS) => (some (.int x.1), rH mo h x.2))) 26 [(0, .ref mo)] [] (rH mo h s) (X12_with_j26 s) := by
  unfold X12_with_j26
  refine s_aload_n (pc := 26) 0 dX12_with_26 rfl ?_
  refine s_iconst (v := 2) (pc := 27) dX12_with_27 (by decide) ?_
  refine s_callV (M := MX12_with) (As := [.int 2]) (st := []) (Ψ := fun (x : Int32 × RS) => (some (.int x.1), rH mo h x.2)) cv_X12_299 (by decide) (pc := 28) dX12_with_28 r_0 (r_lt (k := 0) hh (by decide)) rfl (Nat.le_of_ble_eq_true rfl) (fun x hx => pX12_refuse_ok hh s (2 : Int32) x hx) rfl (fun x4 _ => ?_)
  exact s_iret (pc := 31) dX12_with_31 rfl (fun _ _ q => q)
def pX12_with (s : RS) (a0 : Int32) (a1 : Int32) : Option (Int32 × RS) :=
  thn (uI s 1 (0 : Int32)) fun s1 =>
  thn (uI s1 0 (0 : Int32)) fun s2 =>
  (pX12_isSet s2 a0).bind fun x3 =>
  if x3 = true then
    (pX12_isChange s2 a1).bind fun x5 =>
    if x5 = true then
      (pX12_hasIn a0 a1).bind fun x6 =>
      if x6 = true then
        (pX12_quarrelers s2 a0 a1).bind fun x8 =>
        some (x8, s2)
      else
        (pX12_refuse s2 (8 : Int32)).bind fun x7 =>
        some (x7.1, x7.2)
    else
      X12_with_j26 s2
  else
    X12_with_j26 s2
theorem pX12_with_w (hh : mo + 18 ≤ h.2.1) (s : RS) (a0 : Int32) (a1 : Int32) : aS l 5 MX12_with n0 S0 (oΦ (fun (x : Int32 × RS) => (some (.int x.1), rH mo h x.2))) 0 [(0, .ref mo), (1, .int a0), (2, .int a1)] [] (rH mo h s) (pX12_with s a0 a1) := by
  unfold pX12_with
  refine s_aload_n (pc := 0) 0 dX12_with_0 rfl ?_
  refine s_iconst (v := 0) (pc := 1) dX12_with_1 (by decide) ?_
  refine rp_75 hh (pc := 2) dX12_with_2 rfl (fun s1 => ?_)
  refine s_aload_n (pc := 5) 0 dX12_with_5 rfl ?_
  refine s_iconst (v := 0) (pc := 6) dX12_with_6 (by decide) ?_
  refine rp_78 hh (pc := 7) dX12_with_7 rfl (fun s2 => ?_)
  refine s_aload_n (pc := 10) 0 dX12_with_10 rfl ?_
  refine s_iload_n (pc := 11) 1 dX12_with_11 rfl ?_
  refine s_callV (M := MX12_with) (As := [.int a0]) (st := []) (Ψ := fun (x : Bool) => (some (.int (b2i x)), rH mo h s2)) cv_X12_319 (by decide) (pc := 12) dX12_with_12 r_0 (r_lt (k := 0) hh (by decide)) rfl (Nat.le_of_ble_eq_true rfl) (fun x hx => pX12_isSet_ok hh s2 a0 x hx) rfl (fun x3 _ => ?_)
  refine s_if_eqB (tgt := 26) (pc := 15) dX12_with_15 (by decide) (fun _ => ?_) (fun _ => ?_)
  · refine s_aload_n (pc := 18) 0 dX12_with_18 rfl ?_
    refine s_iload_n (pc := 19) 2 dX12_with_19 rfl ?_
    refine s_callV (M := MX12_with) (As := [.int a1]) (st := []) (Ψ := fun (x : Bool) => (some (.int (b2i x)), rH mo h s2)) cv_X12_311 (by decide) (pc := 20) dX12_with_20 r_0 (r_lt (k := 0) hh (by decide)) rfl (Nat.le_of_ble_eq_true rfl) (fun x hx => pX12_isChange_ok hh s2 a1 x hx) rfl (fun x5 _ => ?_)
    refine s_if_neB (tgt := 32) (pc := 23) dX12_with_23 (by decide) (fun _ => ?_) (fun _ => ?_)
    · refine s_iload_n (pc := 32) 1 dX12_with_32 rfl ?_
      refine s_iload_n (pc := 33) 2 dX12_with_33 rfl ?_
      refine s_callS (M := MX12_with) (As := [.int a0, .int a1]) (st := []) (Ψ := fun (x : Bool) => (some (.int (b2i x)), rH mo h s2)) cs_X12_302 (by decide) (pc := 34) dX12_with_34 rfl (Nat.le_of_ble_eq_true rfl) (fun x hx => pX12_hasIn_ok a0 a1 x hx) rfl (fun x6 _ => ?_)
      refine s_if_eqB (tgt := 49) (pc := 37) dX12_with_37 (by decide) (fun _ => ?_) (fun _ => ?_)
      · refine s_aload_n (pc := 40) 0 dX12_with_40 rfl ?_
        refine s_iload_n (pc := 41) 1 dX12_with_41 rfl ?_
        refine s_iload_n (pc := 42) 2 dX12_with_42 rfl ?_
        refine s_callV (M := MX12_with) (As := [.int a0, .int a1]) (st := []) (Ψ := fun (x : Int32) => (some (.int x), rH mo h s2)) cv_X12_334 (by decide) (pc := 43) dX12_with_43 r_0 (r_lt (k := 0) hh (by decide)) rfl (Nat.le_of_ble_eq_true rfl) (fun x hx => pX12_quarrelers_ok hh s2 a0 a1 x hx) rfl (fun x8 _ => ?_)
        refine s_goto (tgt := 55) (pc := 46) dX12_with_46 (by decide) ?_
        exact s_iret (pc := 55) dX12_with_55 rfl (fun _ _ q => q)
      · refine s_aload_n (pc := 49) 0 dX12_with_49 rfl ?_
        refine s_bipush (v := 8) (pc := 50) dX12_with_50 (by decide) ?_
        refine s_callV (M := MX12_with) (As := [.int 8]) (st := []) (Ψ := fun (x : Int32 × RS) => (some (.int x.1), rH mo h x.2)) cv_X12_299 (by decide) (pc := 52) dX12_with_52 r_0 (r_lt (k := 0) hh (by decide)) rfl (Nat.le_of_ble_eq_true rfl) (fun x hx => pX12_refuse_ok hh s2 (8 : Int32) x hx) rfl (fun x7 _ => ?_)
        exact s_iret (pc := 55) dX12_with_55 rfl (fun _ _ q => q)
    · refine s_sub [0] rfl ?_
      exact X12_with_j26_ok hh s2
  · refine s_sub [0] rfl ?_
    exact X12_with_j26_ok hh s2
theorem pX12_with_ok (hh : mo + 18 ≤ h.2.1) (s : RS) (a0 : Int32) (a1 : Int32) : ∀ x, pX12_with s a0 a1 = some x → aMet l 5 yX12_with cX12_with 3 (some .int) [.ref mo, .int a0, .int a1] (rH mo h s) (some (.int x.1)) (rH mo h x.2) := fun x hx => a_meth (ini := false) (y := yX12_with) (by decide +kernel) (fun q => by cases q) (fun _ => Nat.le_of_ble_eq_true rfl) (pX12_with_w hh s a0 a1) x hx _ _ ⟨rfl, rfl⟩
end
section
variable {l : Launch} {n0 S0 : Nat} {mo : Nat} {h : aH}
abbrev MX12_isQuiet : aM := (cX12_isQuiet, RX12, 2, (some .boolean), false)
def pX12_isQuiet (s : RS) (a0 : Int32) : Option Bool :=
  (pX12_quarrelsIn s a0).bind fun x1 =>
  if x1 = 0 then
    some true
  else
    some false
theorem pX12_isQuiet_w (hh : mo + 18 ≤ h.2.1) (s : RS) (a0 : Int32) : aS l 6 MX12_isQuiet n0 S0 (oΦ (fun (x : Bool) => (some (.int (b2i x)), rH mo h s))) 0 [(0, .ref mo), (1, .int a0)] [] (rH mo h s) (pX12_isQuiet s a0) := by
  unfold pX12_isQuiet
  refine s_aload_n (pc := 0) 0 dX12_isQuiet_0 rfl ?_
  refine s_iload_n (pc := 1) 1 dX12_isQuiet_1 rfl ?_
  refine s_callV (M := MX12_isQuiet) (As := [.int a0]) (st := []) (Ψ := fun (x : Int32) => (some (.int x), rH mo h s)) cv_X12_371 (by decide) (pc := 2) dX12_isQuiet_2 r_0 (r_lt (k := 0) hh (by decide)) rfl (Nat.le_of_ble_eq_true rfl) (fun x hx => pX12_quarrelsIn_ok hh s a0 x hx) rfl (fun x1 _ => ?_)
  refine s_if_ne (tgt := 12) (pc := 5) dX12_isQuiet_5 (by decide) (fun _ => ?_) (fun _ => ?_)
  · refine s_iconst (v := 1) (pc := 8) dX12_isQuiet_8 (by decide) ?_
    refine s_goto (tgt := 13) (pc := 9) dX12_isQuiet_9 (by decide) ?_
    exact s_zretB (b := true) (pc := 13) dX12_isQuiet_13 rfl (fun _ _ q => q)
  · refine s_iconst (v := 0) (pc := 12) dX12_isQuiet_12 (by decide) ?_
    exact s_zretB (b := false) (pc := 13) dX12_isQuiet_13 rfl (fun _ _ q => q)
theorem pX12_isQuiet_ok (hh : mo + 18 ≤ h.2.1) (s : RS) (a0 : Int32) : ∀ x, pX12_isQuiet s a0 = some x → aMet l 6 yX12_isQuiet cX12_isQuiet 2 (some .boolean) [.ref mo, .int a0] (rH mo h s) (some (.int (b2i x))) (rH mo h s) := fun x hx => a_meth (ini := false) (y := yX12_isQuiet) (by decide +kernel) (fun q => by cases q) (fun _ => Nat.le_of_ble_eq_true rfl) (pX12_isQuiet_w hh s a0) x hx _ _ ⟨rfl, rfl⟩
end
section
variable {l : Launch} {n0 S0 : Nat} {mo : Nat} {h : aH}
abbrev MX12_leastOut : aM := (cX12_leastOut, RX12, 4, (some .int), false)
def X12_leastOut_x27 (l : Launch) (n0 S0 : Nat) (mo : Nat) (h : aH) (v1 : Int32) (s : RS) : Int32 → Option Value → aH → Prop := fun (x : Int32) r h' => aEv l 7 MX12_leastOut n0 S0 90 [(2, .int x)] [] (rH mo h s) r h'
def X12_leastOut_j84 (v1 : Int32) (v2 : Int32) (v3 : Int32) (s : RS) : Option ((Int32 × Int32) ⊕ Int32) :=
  thn (v3 + 1) fun x4 =>
  some (.inl (v2, x4))
theorem X12_leastOut_j84_ok (hh : mo + 18 ≤ h.2.1) (v1 : Int32) (v2 : Int32) (v3 : Int32) (s : RS) : aS l 7 MX12_leastOut n0 S0 (a_LΦ (X12_leastOut_x27 l n0 S0 mo h v1 s) l 7 MX12_leastOut n0 S0 27 (fun (q : Int32 × Int32) => [(0, .ref mo), (1, .int v1), (2, .int q.1), (3, .int q.2)]) (fun _ => []) (fun (q : Int32 × Int32) => rH mo h s)) 84 [(0, .ref mo), (1, .int v1), (2, .int v2), (3, .int v3)] [] (rH mo h s) (X12_leastOut_j84 v1 v2 v3 s) := by
  unfold X12_leastOut_j84
  refine s_iincT (pc := 84) 3 (lv' := fun x4 => [(3, .int x4), (0, .ref mo), (1, .int v1), (2, .int v2)]) dX12_leastOut_84 rfl rfl (by decide) (fun _ => rfl) (fun x4 => ?_)
  refine s_goto (tgt := 27) (pc := 87) dX12_leastOut_87 (by decide) ?_
  refine s_sub [1, 2, 3, 0] rfl ?_
  exact s_ev (fun _ _ q => q)
def X12_leastOut_j58 (v1 : Int32) (v2 : Int32) (v3 : Int32) (s : RS) : Option ((Int32 × Int32) ⊕ Int32) :=
  (pX12_lackOf s (v1 &&& (v3 ^^^ (-1 : Int32)))).bind fun x5 =>
  if x5 = 0 then
    (pX12_isQuiet s (v1 &&& (v3 ^^^ (-1 : Int32)))).bind fun x6 =>
    if x6 = true then
      X12_leastOut_j84 v1 v3 v3 s
    else
      X12_leastOut_j84 v1 v2 v3 s
  else
    X12_leastOut_j84 v1 v2 v3 s
theorem X12_leastOut_j58_ok (hh : mo + 18 ≤ h.2.1) (v1 : Int32) (v2 : Int32) (v3 : Int32) (s : RS) : aS l 7 MX12_leastOut n0 S0 (a_LΦ (X12_leastOut_x27 l n0 S0 mo h v1 s) l 7 MX12_leastOut n0 S0 27 (fun (q : Int32 × Int32) => [(0, .ref mo), (1, .int v1), (2, .int q.1), (3, .int q.2)]) (fun _ => []) (fun (q : Int32 × Int32) => rH mo h s)) 58 [(0, .ref mo), (1, .int v1), (2, .int v2), (3, .int v3)] [] (rH mo h s) (X12_leastOut_j58 v1 v2 v3 s) := by
  unfold X12_leastOut_j58
  refine s_aload_n (pc := 58) 0 dX12_leastOut_58 rfl ?_
  refine s_iload_n (pc := 59) 1 dX12_leastOut_59 rfl ?_
  refine s_iload_n (pc := 60) 3 dX12_leastOut_60 rfl ?_
  refine s_iconst (v := (-1)) (pc := 61) dX12_leastOut_61 (by decide) ?_
  refine s_ixor (pc := 62) dX12_leastOut_62 ?_
  refine s_iand (pc := 63) dX12_leastOut_63 ?_
  refine s_callV (M := MX12_leastOut) (As := [.int (v1 &&& (v3 ^^^ (-1 : Int32)))]) (st := []) (Ψ := fun (x : Int32) => (some (.int x), rH mo h s)) cv_X12_322 (by decide) (pc := 64) dX12_leastOut_64 r_0 (r_lt (k := 0) hh (by decide)) rfl (Nat.le_of_ble_eq_true rfl) (fun x hx => pX12_lackOf_ok hh s (v1 &&& (v3 ^^^ (-1 : Int32))) x hx) rfl (fun x5 _ => ?_)
  refine s_if_ne (tgt := 84) (pc := 67) dX12_leastOut_67 (by decide) (fun _ => ?_) (fun _ => ?_)
  · refine s_aload_n (pc := 70) 0 dX12_leastOut_70 rfl ?_
    refine s_iload_n (pc := 71) 1 dX12_leastOut_71 rfl ?_
    refine s_iload_n (pc := 72) 3 dX12_leastOut_72 rfl ?_
    refine s_iconst (v := (-1)) (pc := 73) dX12_leastOut_73 (by decide) ?_
    refine s_ixor (pc := 74) dX12_leastOut_74 ?_
    refine s_iand (pc := 75) dX12_leastOut_75 ?_
    refine s_callV (M := MX12_leastOut) (As := [.int (v1 &&& (v3 ^^^ (-1 : Int32)))]) (st := []) (Ψ := fun (x : Bool) => (some (.int (b2i x)), rH mo h s)) cv_X12_374 (by decide) (pc := 76) dX12_leastOut_76 r_0 (r_lt (k := 0) hh (by decide)) rfl (Nat.le_of_ble_eq_true rfl) (fun x hx => pX12_isQuiet_ok hh s (v1 &&& (v3 ^^^ (-1 : Int32))) x hx) rfl (fun x6 _ => ?_)
    refine s_if_eqB (tgt := 84) (pc := 79) dX12_leastOut_79 (by decide) (fun _ => ?_) (fun _ => ?_)
    · refine s_iload_n (pc := 82) 3 dX12_leastOut_82 rfl ?_
      refine s_istore_n (lv' := [(2, .int v3), (0, .ref mo), (1, .int v1), (3, .int v3)]) (pc := 83) dX12_leastOut_83 (by decide) rfl ?_
      refine s_sub [1, 2, 0, 3] rfl ?_
      exact X12_leastOut_j84_ok hh v1 v3 v3 s
    · exact X12_leastOut_j84_ok hh v1 v2 v3 s
  · exact X12_leastOut_j84_ok hh v1 v2 v3 s
def X12_leastOut_b27 (v1 : Int32) (v2 : Int32) (v3 : Int32) (s : RS) : Option ((Int32 × Int32) ⊕ Int32) :=
  if v1 < v3 then
    some (.inr v2)
  else
    if (v3 &&& (v1 ^^^ (-1 : Int32))) = 0 then
      if v2 < 0 then
        X12_leastOut_j58 v1 v2 v3 s
      else
        (pX12_bits v3).bind fun x7 =>
        (pX12_bits v2).bind fun x8 =>
        if x7 < x8 then
          X12_leastOut_j58 v1 v2 v3 s
        else
          X12_leastOut_j84 v1 v2 v3 s
    else
      X12_leastOut_j84 v1 v2 v3 s
theorem X12_leastOut_b27_ok (hh : mo + 18 ≤ h.2.1) (v1 : Int32) (v2 : Int32) (v3 : Int32) (s : RS) : aS l 7 MX12_leastOut n0 S0 (a_LΦ (X12_leastOut_x27 l n0 S0 mo h v1 s) l 7 MX12_leastOut n0 S0 27 (fun (q : Int32 × Int32) => [(0, .ref mo), (1, .int v1), (2, .int q.1), (3, .int q.2)]) (fun _ => []) (fun (q : Int32 × Int32) => rH mo h s)) 27 [(0, .ref mo), (1, .int v1), (2, .int v2), (3, .int v3)] [] (rH mo h s) (X12_leastOut_b27 v1 v2 v3 s) := by
  unfold X12_leastOut_b27
  refine s_iload_n (pc := 27) 3 dX12_leastOut_27 rfl ?_
  refine s_iload_n (pc := 28) 1 dX12_leastOut_28 rfl ?_
  refine s_icmp_gt (tgt := 90) (pc := 29) dX12_leastOut_29 (by decide) (fun _ => ?_) (fun _ => ?_)
  · refine s_sub [2] rfl ?_
    exact s_ev (fun _ _ q => q)
  · refine s_iload_n (pc := 32) 3 dX12_leastOut_32 rfl ?_
    refine s_iload_n (pc := 33) 1 dX12_leastOut_33 rfl ?_
    refine s_iconst (v := (-1)) (pc := 34) dX12_leastOut_34 (by decide) ?_
    refine s_ixor (pc := 35) dX12_leastOut_35 ?_
    refine s_iand (pc := 36) dX12_leastOut_36 ?_
    refine s_if_ne (tgt := 84) (pc := 37) dX12_leastOut_37 (by decide) (fun _ => ?_) (fun _ => ?_)
    · refine s_iload_n (pc := 40) 2 dX12_leastOut_40 rfl ?_
      refine s_if_lt (tgt := 58) (pc := 41) dX12_leastOut_41 (by decide) (fun _ => ?_) (fun _ => ?_)
      · exact X12_leastOut_j58_ok hh v1 v2 v3 s
      · refine s_iload_n (pc := 44) 3 dX12_leastOut_44 rfl ?_
        refine s_callS (M := MX12_leastOut) (As := [.int v3]) (st := []) (Ψ := fun (x : Int32) => (some (.int x), rH mo h s)) cs_X12_325 (by decide) (pc := 45) dX12_leastOut_45 rfl (Nat.le_of_ble_eq_true rfl) (fun x hx => pX12_bits_ok v3 x hx) rfl (fun x7 _ => ?_)
        refine s_iload_n (pc := 48) 2 dX12_leastOut_48 rfl ?_
        refine s_callS (M := MX12_leastOut) (As := [.int v2]) (st := [.int x7]) (Ψ := fun (x : Int32) => (some (.int x), rH mo h s)) cs_X12_325 (by decide) (pc := 49) dX12_leastOut_49 rfl (Nat.le_of_ble_eq_true rfl) (fun x hx => pX12_bits_ok v2 x hx) rfl (fun x8 _ => ?_)
        refine s_icmp_lt (tgt := 58) (pc := 52) dX12_leastOut_52 (by decide) (fun _ => ?_) (fun _ => ?_)
        · exact X12_leastOut_j58_ok hh v1 v2 v3 s
        · refine s_goto (tgt := 84) (pc := 55) dX12_leastOut_55 (by decide) ?_
          exact X12_leastOut_j84_ok hh v1 v2 v3 s
    · exact X12_leastOut_j84_ok hh v1 v2 v3 s
def pX12_leastOut (s : RS) (a0 : Int32) : Option (Int32 × RS) :=
  thn (uI s 1 (0 : Int32)) fun s1 =>
  (pX12_whyNot s1 a0).bind fun x2 =>
  thn (uI s1 0 x2) fun s3 =>
  if (s3.1 0) ≤ 0 then
    (a_loop (fun (q : Int32 × Int32) => X12_leastOut_b27 a0 q.1 q.2 s3) FU ((-1 : Int32), (0 : Int32))).bind fun (t9 : Int32) =>
      some (t9, s3)
  else
    some ((-1 : Int32), s3)
theorem pX12_leastOut_w (hh : mo + 18 ≤ h.2.1) (s : RS) (a0 : Int32) : aS l 7 MX12_leastOut n0 S0 (oΦ (fun (x : Int32 × RS) => (some (.int x.1), rH mo h x.2))) 0 [(0, .ref mo), (1, .int a0)] [] (rH mo h s) (pX12_leastOut s a0) := by
  unfold pX12_leastOut
  refine s_aload_n (pc := 0) 0 dX12_leastOut_0 rfl ?_
  refine s_iconst (v := 0) (pc := 1) dX12_leastOut_1 (by decide) ?_
  refine rp_75 hh (pc := 2) dX12_leastOut_2 rfl (fun s1 => ?_)
  refine s_aload_n (pc := 5) 0 dX12_leastOut_5 rfl ?_
  refine s_aload_n (pc := 6) 0 dX12_leastOut_6 rfl ?_
  refine s_iload_n (pc := 7) 1 dX12_leastOut_7 rfl ?_
  refine s_callV (M := MX12_leastOut) (As := [.int a0]) (st := [.ref mo]) (Ψ := fun (x : Int32) => (some (.int x), rH mo h s1)) cv_X12_349 (by decide) (pc := 8) dX12_leastOut_8 r_0 (r_lt (k := 0) hh (by decide)) rfl (Nat.le_of_ble_eq_true rfl) (fun x hx => pX12_whyNot_ok hh s1 a0 x hx) rfl (fun x2 _ => ?_)
  refine rp_78 hh (pc := 11) dX12_leastOut_11 rfl (fun s3 => ?_)
  refine s_aload_n (pc := 14) 0 dX12_leastOut_14 rfl ?_
  refine rg_78 hh (pc := 15) dX12_leastOut_15 rfl ?_
  refine s_if_le (tgt := 23) (pc := 18) dX12_leastOut_18 (by decide) (fun _ => ?_) (fun _ => ?_)
  · refine s_iconst (v := (-1)) (pc := 23) dX12_leastOut_23 (by decide) ?_
    refine s_istore_n (lv' := [(2, .int (-1)), (0, .ref mo), (1, .int a0)]) (pc := 24) dX12_leastOut_24 (by decide) rfl ?_
    refine s_iconst (v := 0) (pc := 25) dX12_leastOut_25 (by decide) ?_
    refine s_istore_n (lv' := [(3, .int 0), (2, .int (-1)), (0, .ref mo), (1, .int a0)]) (pc := 26) dX12_leastOut_26 (by decide) rfl ?_
    refine s_bind (Ψ := X12_leastOut_x27 l n0 S0 mo h a0 s3) ?_ ?_
    · refine s_sub [2, 3, 1, 0] rfl ?_
      exact s_loop (lvf := fun (q : Int32 × Int32) => [(0, .ref mo), (1, .int a0), (2, .int q.1), (3, .int q.2)]) (stf := fun _ => []) (hf := fun (q : Int32 × Int32) => rH mo h s3) (fun q => X12_leastOut_b27_ok hh a0 q.1 q.2 s3) FU ((-1 : Int32), (0 : Int32))
    · intro t9 z r h' hz hr
      refine (?_ : aS l 7 MX12_leastOut n0 S0 (oΦ (fun (x : Int32 × RS) => (some (.int x.1), rH mo h x.2))) 90 [(2, .int t9)] [] (rH mo h s3) _) z hz r h' hr
      refine s_iload_n (pc := 90) 0 dX12_leastOut_90 rfl ?_
      exact s_iret (pc := 91) dX12_leastOut_91 rfl (fun _ _ q => q)
  · refine s_iconst (v := (-1)) (pc := 21) dX12_leastOut_21 (by decide) ?_
    exact s_iret (pc := 22) dX12_leastOut_22 rfl (fun _ _ q => q)
theorem pX12_leastOut_ok (hh : mo + 18 ≤ h.2.1) (s : RS) (a0 : Int32) : ∀ x, pX12_leastOut s a0 = some x → aMet l 7 yX12_leastOut cX12_leastOut 4 (some .int) [.ref mo, .int a0] (rH mo h s) (some (.int x.1)) (rH mo h x.2) := fun x hx => a_meth (ini := false) (y := yX12_leastOut) (by decide +kernel) (fun q => by cases q) (fun _ => Nat.le_of_ble_eq_true rfl) (pX12_leastOut_w hh s a0) x hx _ _ ⟨rfl, rfl⟩
end
section
variable {l : Launch} {n0 S0 : Nat} {mo : Nat} {h : aH}
abbrev MX12_mostQuiet : aM := (cX12_mostQuiet, RX12, 3, (some .int), false)
def X12_mostQuiet_x14 (l : Launch) (n0 S0 : Nat) (mo : Nat) (h : aH) (s : RS) : Int32 → Option Value → aH → Prop := fun (x : Int32) r h' => aEv l 7 MX12_mostQuiet n0 S0 61 [(1, .int x)] [] (rH mo h s) r h'
def X12_mostQuiet_j55 (v1 : Int32) (v2 : Int32) (s : RS) : Option ((Int32 × Int32) ⊕ Int32) :=
  thn (v2 + 1) fun x4 =>
  some (.inl (v1, x4))
theorem X12_mostQuiet_j55_ok (hh : mo + 18 ≤ h.2.1) (v1 : Int32) (v2 : Int32) (s : RS) : aS l 7 MX12_mostQuiet n0 S0 (a_LΦ (X12_mostQuiet_x14 l n0 S0 mo h s) l 7 MX12_mostQuiet n0 S0 14 (fun (q : Int32 × Int32) => [(0, .ref mo), (1, .int q.1), (2, .int q.2)]) (fun _ => []) (fun (q : Int32 × Int32) => rH mo h s)) 55 [(0, .ref mo), (1, .int v1), (2, .int v2)] [] (rH mo h s) (X12_mostQuiet_j55 v1 v2 s) := by
  unfold X12_mostQuiet_j55
  refine s_iincT (pc := 55) 2 (lv' := fun x4 => [(2, .int x4), (0, .ref mo), (1, .int v1)]) dX12_mostQuiet_55 rfl rfl (by decide) (fun _ => rfl) (fun x4 => ?_)
  refine s_goto (tgt := 14) (pc := 58) dX12_mostQuiet_58 (by decide) ?_
  refine s_sub [1, 2, 0] rfl ?_
  exact s_ev (fun _ _ q => q)
def X12_mostQuiet_b14 (v1 : Int32) (v2 : Int32) (s : RS) : Option ((Int32 × Int32) ⊕ Int32) :=
  g_in (0 : Int32) 1800 (
  if ((1 : Int32) <<< ((s.2.2.1 4 (0 : Int32).toNatClampNeg) &&& 31)) ≤ v2 then
    some (.inr v1)
  else
    (pX12_bits v2).bind fun x3 =>
    if x3 ≤ v1 then
      X12_mostQuiet_j55 v1 v2 s
    else
      (pX12_lackOf s v2).bind fun x5 =>
      if x5 = 0 then
        (pX12_isQuiet s v2).bind fun x6 =>
        if x6 = true then
          (pX12_bits v2).bind fun x7 =>
          X12_mostQuiet_j55 x7 v2 s
        else
          X12_mostQuiet_j55 v1 v2 s
      else
        X12_mostQuiet_j55 v1 v2 s)
theorem X12_mostQuiet_b14_ok (hh : mo + 18 ≤ h.2.1) (v1 : Int32) (v2 : Int32) (s : RS) : aS l 7 MX12_mostQuiet n0 S0 (a_LΦ (X12_mostQuiet_x14 l n0 S0 mo h s) l 7 MX12_mostQuiet n0 S0 14 (fun (q : Int32 × Int32) => [(0, .ref mo), (1, .int q.1), (2, .int q.2)]) (fun _ => []) (fun (q : Int32 × Int32) => rH mo h s)) 14 [(0, .ref mo), (1, .int v1), (2, .int v2)] [] (rH mo h s) (X12_mostQuiet_b14 v1 v2 s) := by
  unfold X12_mostQuiet_b14
  refine s_iload_n (pc := 14) 2 dX12_mostQuiet_14 rfl ?_
  refine s_iconst (v := 1) (pc := 15) dX12_mostQuiet_15 (by decide) ?_
  refine s_aload_n (pc := 16) 0 dX12_mostQuiet_16 rfl ?_
  refine rg_35 hh (pc := 17) dX12_mostQuiet_17 rfl ?_
  refine s_iconst (v := 0) (pc := 20) dX12_mostQuiet_20 (by decide) ?_
  refine rl_4 hh (pc := 21) dX12_mostQuiet_21 ?_
  refine s_ishl (pc := 22) dX12_mostQuiet_22 ?_
  refine s_icmp_ge (tgt := 61) (pc := 23) dX12_mostQuiet_23 (by decide) (fun _ => ?_) (fun _ => ?_)
  · refine s_sub [1] rfl ?_
    exact s_ev (fun _ _ q => q)
  · refine s_iload_n (pc := 26) 2 dX12_mostQuiet_26 rfl ?_
    refine s_callS (M := MX12_mostQuiet) (As := [.int v2]) (st := []) (Ψ := fun (x : Int32) => (some (.int x), rH mo h s)) cs_X12_325 (by decide) (pc := 27) dX12_mostQuiet_27 rfl (Nat.le_of_ble_eq_true rfl) (fun x hx => pX12_bits_ok v2 x hx) rfl (fun x3 _ => ?_)
    refine s_iload_n (pc := 30) 1 dX12_mostQuiet_30 rfl ?_
    refine s_icmp_le (tgt := 55) (pc := 31) dX12_mostQuiet_31 (by decide) (fun _ => ?_) (fun _ => ?_)
    · exact X12_mostQuiet_j55_ok hh v1 v2 s
    · refine s_aload_n (pc := 34) 0 dX12_mostQuiet_34 rfl ?_
      refine s_iload_n (pc := 35) 2 dX12_mostQuiet_35 rfl ?_
      refine s_callV (M := MX12_mostQuiet) (As := [.int v2]) (st := []) (Ψ := fun (x : Int32) => (some (.int x), rH mo h s)) cv_X12_322 (by decide) (pc := 36) dX12_mostQuiet_36 r_0 (r_lt (k := 0) hh (by decide)) rfl (Nat.le_of_ble_eq_true rfl) (fun x hx => pX12_lackOf_ok hh s v2 x hx) rfl (fun x5 _ => ?_)
      refine s_if_ne (tgt := 55) (pc := 39) dX12_mostQuiet_39 (by decide) (fun _ => ?_) (fun _ => ?_)
      · refine s_aload_n (pc := 42) 0 dX12_mostQuiet_42 rfl ?_
        refine s_iload_n (pc := 43) 2 dX12_mostQuiet_43 rfl ?_
        refine s_callV (M := MX12_mostQuiet) (As := [.int v2]) (st := []) (Ψ := fun (x : Bool) => (some (.int (b2i x)), rH mo h s)) cv_X12_374 (by decide) (pc := 44) dX12_mostQuiet_44 r_0 (r_lt (k := 0) hh (by decide)) rfl (Nat.le_of_ble_eq_true rfl) (fun x hx => pX12_isQuiet_ok hh s v2 x hx) rfl (fun x6 _ => ?_)
        refine s_if_eqB (tgt := 55) (pc := 47) dX12_mostQuiet_47 (by decide) (fun _ => ?_) (fun _ => ?_)
        · refine s_iload_n (pc := 50) 2 dX12_mostQuiet_50 rfl ?_
          refine s_callS (M := MX12_mostQuiet) (As := [.int v2]) (st := []) (Ψ := fun (x : Int32) => (some (.int x), rH mo h s)) cs_X12_325 (by decide) (pc := 51) dX12_mostQuiet_51 rfl (Nat.le_of_ble_eq_true rfl) (fun x hx => pX12_bits_ok v2 x hx) rfl (fun x7 _ => ?_)
          refine s_istore_n (lv' := [(1, .int x7), (0, .ref mo), (2, .int v2)]) (pc := 54) dX12_mostQuiet_54 (by decide) rfl ?_
          refine s_sub [1, 0, 2] rfl ?_
          exact X12_mostQuiet_j55_ok hh x7 v2 s
        · exact X12_mostQuiet_j55_ok hh v1 v2 s
      · exact X12_mostQuiet_j55_ok hh v1 v2 s
def pX12_mostQuiet (s : RS) : Option (Int32 × RS) :=
  thn (uI s 1 (0 : Int32)) fun s1 =>
  thn (uI s1 0 (0 : Int32)) fun s2 =>
  (a_loop (fun (q : Int32 × Int32) => X12_mostQuiet_b14 q.1 q.2 s2) FU ((0 : Int32), (0 : Int32))).bind fun (t8 : Int32) =>
    some (t8, s2)
theorem pX12_mostQuiet_w (hh : mo + 18 ≤ h.2.1) (s : RS) : aS l 7 MX12_mostQuiet n0 S0 (oΦ (fun (x : Int32 × RS) => (some (.int x.1), rH mo h x.2))) 0 [(0, .ref mo)] [] (rH mo h s) (pX12_mostQuiet s) := by
  unfold pX12_mostQuiet
  refine s_aload_n (pc := 0) 0 dX12_mostQuiet_0 rfl ?_
  refine s_iconst (v := 0) (pc := 1) dX12_mostQuiet_1 (by decide) ?_
  refine rp_75 hh (pc := 2) dX12_mostQuiet_2 rfl (fun s1 => ?_)
  refine s_aload_n (pc := 5) 0 dX12_mostQuiet_5 rfl ?_
  refine s_iconst (v := 0) (pc := 6) dX12_mostQuiet_6 (by decide) ?_
  refine rp_78 hh (pc := 7) dX12_mostQuiet_7 rfl (fun s2 => ?_)
  refine s_iconst (v := 0) (pc := 10) dX12_mostQuiet_10 (by decide) ?_
  refine s_istore_n (lv' := [(1, .int 0), (0, .ref mo)]) (pc := 11) dX12_mostQuiet_11 (by decide) rfl ?_
  refine s_iconst (v := 0) (pc := 12) dX12_mostQuiet_12 (by decide) ?_
  refine s_istore_n (lv' := [(2, .int 0), (1, .int 0), (0, .ref mo)]) (pc := 13) dX12_mostQuiet_13 (by decide) rfl ?_
  refine s_bind (Ψ := X12_mostQuiet_x14 l n0 S0 mo h s2) ?_ ?_
  · refine s_sub [2, 1, 0] rfl ?_
    exact s_loop (lvf := fun (q : Int32 × Int32) => [(0, .ref mo), (1, .int q.1), (2, .int q.2)]) (stf := fun _ => []) (hf := fun (q : Int32 × Int32) => rH mo h s2) (fun q => X12_mostQuiet_b14_ok hh q.1 q.2 s2) FU ((0 : Int32), (0 : Int32))
  · intro t8 z r h' hz hr
    refine (?_ : aS l 7 MX12_mostQuiet n0 S0 (oΦ (fun (x : Int32 × RS) => (some (.int x.1), rH mo h x.2))) 61 [(1, .int t8)] [] (rH mo h s2) _) z hz r h' hr
    refine s_iload_n (pc := 61) 0 dX12_mostQuiet_61 rfl ?_
    exact s_iret (pc := 62) dX12_mostQuiet_62 rfl (fun _ _ q => q)
theorem pX12_mostQuiet_ok (hh : mo + 18 ≤ h.2.1) (s : RS) : ∀ x, pX12_mostQuiet s = some x → aMet l 7 yX12_mostQuiet cX12_mostQuiet 3 (some .int) [.ref mo] (rH mo h s) (some (.int x.1)) (rH mo h x.2) := fun x hx => a_meth (ini := false) (y := yX12_mostQuiet) (by decide +kernel) (fun q => by cases q) (fun _ => Nat.le_of_ble_eq_true rfl) (pX12_mostQuiet_w hh s) x hx _ _ ⟨rfl, rfl⟩
end
section
variable {l : Launch} {n0 S0 : Nat} {mo : Nat} {h : aH}
abbrev MX12_need : aM := (cX12_need, RX12, 5, none, false)
def X12_need_x3 (l : Launch) (n0 S0 : Nat) (mo : Nat) (h : aH) (v1 : Int32) (v2 : Int32) (v3 : Int32) : RS → Option Value → aH → Prop := fun (x : RS) r h' => aEv l 1 MX12_need n0 S0 36 [(0, .ref mo), (2, .int v2), (3, .int v3)] [] (rH mo h x) r h'
def X12_need_b3 (v1 : Int32) (v2 : Int32) (v3 : Int32) (v4 : Int32) (s : RS) : Option ((Int32 × RS) ⊕ RS) :=
  g_in (0 : Int32) 1800 (
  if (s.2.2.1 4 (0 : Int32).toNatClampNeg) ≤ v4 then
    some (.inr s)
  else
    (pX12_hangsOn s (0 : Int32) v4).bind fun x1 =>
    g_in v4 16 (thn (uA s 9 (upd (s.2.2.1 9) v4.toNatClampNeg (x1 &&& v1))) fun s2 =>
    thn (v4 + 1) fun x3 =>
    some (.inl (x3, s2))))
theorem X12_need_b3_ok (hh : mo + 18 ≤ h.2.1) (v1 : Int32) (v2 : Int32) (v3 : Int32) (v4 : Int32) (s : RS) : aS l 1 MX12_need n0 S0 (a_LΦ (X12_need_x3 l n0 S0 mo h v1 v2 v3) l 1 MX12_need n0 S0 3 (fun (q : Int32 × RS) => [(0, .ref mo), (1, .int v1), (2, .int v2), (3, .int v3), (4, .int q.1)]) (fun _ => []) (fun (q : Int32 × RS) => rH mo h q.2)) 3 [(0, .ref mo), (1, .int v1), (2, .int v2), (3, .int v3), (4, .int v4)] [] (rH mo h s) (X12_need_b3 v1 v2 v3 v4 s) := by
  unfold X12_need_b3
  refine s_iload (pc := 3) 4 dX12_need_3 rfl ?_
  refine s_aload_n (pc := 5) 0 dX12_need_5 rfl ?_
  refine rg_35 hh (pc := 6) dX12_need_6 rfl ?_
  refine s_iconst (v := 0) (pc := 9) dX12_need_9 (by decide) ?_
  refine rl_4 hh (pc := 10) dX12_need_10 ?_
  refine s_icmp_ge (tgt := 36) (pc := 11) dX12_need_11 (by decide) (fun _ => ?_) (fun _ => ?_)
  · refine s_sub [0, 2, 3] rfl ?_
    exact s_ev (fun _ _ q => q)
  · refine s_aload_n (pc := 14) 0 dX12_need_14 rfl ?_
    refine rg_51 hh (pc := 15) dX12_need_15 rfl ?_
    refine s_iload (pc := 18) 4 dX12_need_18 rfl ?_
    refine s_aload_n (pc := 20) 0 dX12_need_20 rfl ?_
    refine s_iconst (v := 0) (pc := 21) dX12_need_21 (by decide) ?_
    refine s_iload (pc := 22) 4 dX12_need_22 rfl ?_
    refine s_callV (M := MX12_need) (As := [.int 0, .int v4]) (st := [.int v4, .ref (mo + 10)]) (Ψ := fun (x : Int32) => (some (.int x), rH mo h s)) cv_X12_249 (by decide) (pc := 24) dX12_need_24 r_0 (r_lt (k := 0) hh (by decide)) rfl (Nat.le_of_ble_eq_true rfl) (fun x hx => pX12_hangsOn_ok hh s (0 : Int32) v4 x hx) rfl (fun x1 _ => ?_)
    refine s_iload_n (pc := 27) 1 dX12_need_27 rfl ?_
    refine s_iand (pc := 28) dX12_need_28 ?_
    refine rs_9 hh (pc := 29) dX12_need_29 (fun s2 => ?_)
    refine s_iincT (pc := 30) 4 (lv' := fun x3 => [(4, .int x3), (0, .ref mo), (1, .int v1), (2, .int v2), (3, .int v3)]) dX12_need_30 rfl rfl (by decide) (fun _ => rfl) (fun x3 => ?_)
    refine s_goto (tgt := 3) (pc := 33) dX12_need_33 (by decide) ?_
    refine s_sub [1, 2, 3, 4, 0] rfl ?_
    exact s_ev (fun _ _ q => q)
def pX12_need (s : RS) (a0 : Int32) (a1 : Int32) (a2 : Int32) : Option RS :=
  (a_loop (fun (q : Int32 × RS) => X12_need_b3 a0 a1 a2 q.1 q.2) FU ((0 : Int32), s)).bind fun (t4 : RS) =>
    if a2 < 0 then
      some t4
    else
      g_in a2 16 (
      g_in a2 16 (thn (uA t4 9 (upd (t4.2.2.1 9) a2.toNatClampNeg ((t4.2.2.1 9 a2.toNatClampNeg) ||| ((1 : Int32) <<< (a1 &&& 31))))) fun s5 =>
      some s5))
theorem pX12_need_w (hh : mo + 18 ≤ h.2.1) (s : RS) (a0 : Int32) (a1 : Int32) (a2 : Int32) : aS l 1 MX12_need n0 S0 (oΦ (fun (x : RS) => (none, rH mo h x))) 0 [(0, .ref mo), (1, .int a0), (2, .int a1), (3, .int a2)] [] (rH mo h s) (pX12_need s a0 a1 a2) := by
  unfold pX12_need
  refine s_iconst (v := 0) (pc := 0) dX12_need_0 (by decide) ?_
  refine s_istore (lv' := [(4, .int 0), (0, .ref mo), (1, .int a0), (2, .int a1), (3, .int a2)]) (pc := 1) dX12_need_1 (by decide) rfl ?_
  refine s_bind (Ψ := X12_need_x3 l n0 S0 mo h a0 a1 a2) ?_ ?_
  · refine s_sub [1, 2, 3, 4, 0] rfl ?_
    exact s_loop (lvf := fun (q : Int32 × RS) => [(0, .ref mo), (1, .int a0), (2, .int a1), (3, .int a2), (4, .int q.1)]) (stf := fun _ => []) (hf := fun (q : Int32 × RS) => rH mo h q.2) (fun q => X12_need_b3_ok hh a0 a1 a2 q.1 q.2) FU ((0 : Int32), s)
  · intro t4 z r h' hz hr
    refine (?_ : aS l 1 MX12_need n0 S0 (oΦ (fun (x : RS) => (none, rH mo h x))) 36 [(0, .ref mo), (2, .int a1), (3, .int a2)] [] (rH mo h t4) _) z hz r h' hr
    refine s_iload_n (pc := 36) 2 dX12_need_36 rfl ?_
    refine s_if_lt (tgt := 52) (pc := 37) dX12_need_37 (by decide) (fun _ => ?_) (fun _ => ?_)
    · exact s_vret (pc := 52) dX12_need_52 rfl (fun _ _ q => q)
    · refine s_aload_n (pc := 40) 0 dX12_need_40 rfl ?_
      refine rg_51 hh (pc := 41) dX12_need_41 rfl ?_
      refine s_iload_n (pc := 44) 2 dX12_need_44 rfl ?_
      refine s_dup2_11 (pc := 45) dX12_need_45 rfl rfl ?_
      refine rl_9 hh (pc := 46) dX12_need_46 ?_
      refine s_iconst (v := 1) (pc := 47) dX12_need_47 (by decide) ?_
      refine s_iload_n (pc := 48) 1 dX12_need_48 rfl ?_
      refine s_ishl (pc := 49) dX12_need_49 ?_
      refine s_ior (pc := 50) dX12_need_50 ?_
      refine rs_9 hh (pc := 51) dX12_need_51 (fun s5 => ?_)
      exact s_vret (pc := 52) dX12_need_52 rfl (fun _ _ q => q)
theorem pX12_need_ok (hh : mo + 18 ≤ h.2.1) (s : RS) (a0 : Int32) (a1 : Int32) (a2 : Int32) : ∀ x, pX12_need s a0 a1 a2 = some x → aMet l 1 yX12_need cX12_need 5 none [.ref mo, .int a0, .int a1, .int a2] (rH mo h s) none (rH mo h x) := fun x hx => a_meth (ini := false) (y := yX12_need) (by decide +kernel) (fun q => by cases q) (fun _ => Nat.le_of_ble_eq_true rfl) (pX12_need_w hh s a0 a1 a2) x hx _ _ ⟨rfl, rfl⟩
end
section
variable {l : Launch} {n0 S0 : Nat} {mo : Nat} {h : aH}
abbrev MX12_countWays : aM := (cX12_countWays, RX12, 4, none, false)
def X12_countWays_x2 (l : Launch) (n0 S0 : Nat) (mo : Nat) (h : aH) (v1 : Int32) : RS → Option Value → aH → Prop := fun (x : RS) r h' => aEv l 1 MX12_countWays n0 S0 101 [] [] (rH mo h x) r h'
def X12_countWays_x35 (l : Launch) (n0 S0 : Nat) (mo : Nat) (h : aH) (v1 : Int32) (v2 : Int32) : RS → Option Value → aH → Prop := fun (x : RS) r h' => aEv l 1 MX12_countWays n0 S0 95 [(0, .ref mo), (1, .int v1), (2, .int v2)] [] (rH mo h x) r h'
def X12_countWays_j89 (v1 : Int32) (v2 : Int32) (v3 : Int32) (s : RS) : Option ((Int32 × RS) ⊕ RS) :=
  thn (v3 + 1) fun x3 =>
  some (.inl (x3, s))
theorem X12_countWays_j89_ok (hh : mo + 18 ≤ h.2.1) (v1 : Int32) (v2 : Int32) (v3 : Int32) (s : RS) : aS l 1 MX12_countWays n0 S0 (a_LΦ (X12_countWays_x35 l n0 S0 mo h v1 v2) l 1 MX12_countWays n0 S0 35 (fun (q : Int32 × RS) => [(0, .ref mo), (1, .int v1), (2, .int v2), (3, .int q.1)]) (fun _ => []) (fun (q : Int32 × RS) => rH mo h q.2)) 89 [(0, .ref mo), (1, .int v1), (2, .int v2), (3, .int v3)] [] (rH mo h s) (X12_countWays_j89 v1 v2 v3 s) := by
  unfold X12_countWays_j89
  refine s_iincT (pc := 89) 3 (lv' := fun x3 => [(3, .int x3), (0, .ref mo), (1, .int v1), (2, .int v2)]) dX12_countWays_89 rfl rfl (by decide) (fun _ => rfl) (fun x3 => ?_)
  refine s_goto (tgt := 35) (pc := 92) dX12_countWays_92 (by decide) ?_
  refine s_sub [1, 2, 3, 0] rfl ?_
  exact s_ev (fun _ _ q => q)
def X12_countWays_b35 (v1 : Int32) (v2 : Int32) (v3 : Int32) (s : RS) : Option ((Int32 × RS) ⊕ RS) :=
  g_in (0 : Int32) 1800 (
  if (s.2.2.1 4 (0 : Int32).toNatClampNeg) ≤ v3 then
    some (.inr s)
  else
    (pX12_hasIn (v1 &&& (v2 ^^^ (-1 : Int32))) v3).bind fun x2 =>
    if x2 = true then
      g_in v3 16 (
      if ((s.2.2.1 9 v3.toNatClampNeg) &&& (v2 ^^^ (-1 : Int32))) = 0 then
        g_in v2 65536 (
        g_in (v2 ||| ((1 : Int32) <<< (v3 &&& 31))) 65536 (
        g_in v2 65536 (thn (uB s 8 (vp_updL (s.2.2.2 8) v2.toNatClampNeg ((s.2.2.2 8 v2.toNatClampNeg) + (s.2.2.2 8 (v2 ||| ((1 : Int32) <<< (v3 &&& 31))).toNatClampNeg)))) fun s4 =>
        X12_countWays_j89 v1 v2 v3 s4)))
      else
        X12_countWays_j89 v1 v2 v3 s)
    else
      X12_countWays_j89 v1 v2 v3 s)
theorem X12_countWays_b35_ok (hh : mo + 18 ≤ h.2.1) (v1 : Int32) (v2 : Int32) (v3 : Int32) (s : RS) : aS l 1 MX12_countWays n0 S0 (a_LΦ (X12_countWays_x35 l n0 S0 mo h v1 v2) l 1 MX12_countWays n0 S0 35 (fun (q : Int32 × RS) => [(0, .ref mo), (1, .int v1), (2, .int v2), (3, .int q.1)]) (fun _ => []) (fun (q : Int32 × RS) => rH mo h q.2)) 35 [(0, .ref mo), (1, .int v1), (2, .int v2), (3, .int v3)] [] (rH mo h s) (X12_countWays_b35 v1 v2 v3 s) := by
  unfold X12_countWays_b35
  refine s_iload_n (pc := 35) 3 dX12_countWays_35 rfl ?_
  refine s_aload_n (pc := 36) 0 dX12_countWays_36 rfl ?_
  refine rg_35 hh (pc := 37) dX12_countWays_37 rfl ?_
  refine s_iconst (v := 0) (pc := 40) dX12_countWays_40 (by decide) ?_
  refine rl_4 hh (pc := 41) dX12_countWays_41 ?_
  refine s_icmp_ge (tgt := 95) (pc := 42) dX12_countWays_42 (by decide) (fun _ => ?_) (fun _ => ?_)
  · refine s_sub [0, 1, 2] rfl ?_
    exact s_ev (fun _ _ q => q)
  · refine s_iload_n (pc := 45) 1 dX12_countWays_45 rfl ?_
    refine s_iload_n (pc := 46) 2 dX12_countWays_46 rfl ?_
    refine s_iconst (v := (-1)) (pc := 47) dX12_countWays_47 (by decide) ?_
    refine s_ixor (pc := 48) dX12_countWays_48 ?_
    refine s_iand (pc := 49) dX12_countWays_49 ?_
    refine s_iload_n (pc := 50) 3 dX12_countWays_50 rfl ?_
    refine s_callS (M := MX12_countWays) (As := [.int (v1 &&& (v2 ^^^ (-1 : Int32))), .int v3]) (st := []) (Ψ := fun (x : Bool) => (some (.int (b2i x)), rH mo h s)) cs_X12_302 (by decide) (pc := 51) dX12_countWays_51 rfl (Nat.le_of_ble_eq_true rfl) (fun x hx => pX12_hasIn_ok (v1 &&& (v2 ^^^ (-1 : Int32))) v3 x hx) rfl (fun x2 _ => ?_)
    refine s_if_eqB (tgt := 89) (pc := 54) dX12_countWays_54 (by decide) (fun _ => ?_) (fun _ => ?_)
    · refine s_aload_n (pc := 57) 0 dX12_countWays_57 rfl ?_
      refine rg_51 hh (pc := 58) dX12_countWays_58 rfl ?_
      refine s_iload_n (pc := 61) 3 dX12_countWays_61 rfl ?_
      refine rl_9 hh (pc := 62) dX12_countWays_62 ?_
      refine s_iload_n (pc := 63) 2 dX12_countWays_63 rfl ?_
      refine s_iconst (v := (-1)) (pc := 64) dX12_countWays_64 (by decide) ?_
      refine s_ixor (pc := 65) dX12_countWays_65 ?_
      refine s_iand (pc := 66) dX12_countWays_66 ?_
      refine s_if_ne (tgt := 89) (pc := 67) dX12_countWays_67 (by decide) (fun _ => ?_) (fun _ => ?_)
      · refine s_aload_n (pc := 70) 0 dX12_countWays_70 rfl ?_
        refine rg_48 hh (pc := 71) dX12_countWays_71 rfl ?_
        refine s_iload_n (pc := 74) 2 dX12_countWays_74 rfl ?_
        refine s_dup2_11 (pc := 75) dX12_countWays_75 rfl rfl ?_
        refine rl_8 hh (pc := 76) dX12_countWays_76 ?_
        refine s_aload_n (pc := 77) 0 dX12_countWays_77 rfl ?_
        refine rg_48 hh (pc := 78) dX12_countWays_78 rfl ?_
        refine s_iload_n (pc := 81) 2 dX12_countWays_81 rfl ?_
        refine s_iconst (v := 1) (pc := 82) dX12_countWays_82 (by decide) ?_
        refine s_iload_n (pc := 83) 3 dX12_countWays_83 rfl ?_
        refine s_ishl (pc := 84) dX12_countWays_84 ?_
        refine s_ior (pc := 85) dX12_countWays_85 ?_
        refine rl_8 hh (pc := 86) dX12_countWays_86 ?_
        refine s_ladd (pc := 87) dX12_countWays_87 ?_
        refine rs_8 hh (pc := 88) dX12_countWays_88 (fun s4 => ?_)
        exact X12_countWays_j89_ok hh v1 v2 v3 s4
      · exact X12_countWays_j89_ok hh v1 v2 v3 s
    · exact X12_countWays_j89_ok hh v1 v2 v3 s
def X12_countWays_j95 (v1 : Int32) (v2 : Int32) (s : RS) : Option ((Int32 × RS) ⊕ RS) :=
  thn (v2 + (-1)) fun x6 =>
  some (.inl (x6, s))
theorem X12_countWays_j95_ok (hh : mo + 18 ≤ h.2.1) (v1 : Int32) (v2 : Int32) (s : RS) : aS l 1 MX12_countWays n0 S0 (a_LΦ (X12_countWays_x2 l n0 S0 mo h v1) l 1 MX12_countWays n0 S0 2 (fun (q : Int32 × RS) => [(0, .ref mo), (1, .int v1), (2, .int q.1)]) (fun _ => []) (fun (q : Int32 × RS) => rH mo h q.2)) 95 [(0, .ref mo), (1, .int v1), (2, .int v2)] [] (rH mo h s) (X12_countWays_j95 v1 v2 s) := by
  unfold X12_countWays_j95
  refine s_iincT (pc := 95) 2 (lv' := fun x6 => [(2, .int x6), (0, .ref mo), (1, .int v1)]) dX12_countWays_95 rfl rfl (by decide) (fun _ => rfl) (fun x6 => ?_)
  refine s_goto (tgt := 2) (pc := 98) dX12_countWays_98 (by decide) ?_
  refine s_sub [1, 2, 0] rfl ?_
  exact s_ev (fun _ _ q => q)
def X12_countWays_j32 (v1 : Int32) (v2 : Int32) (k1 : Int32) (k2 : Int64) (s : RS) : Option ((Int32 × RS) ⊕ RS) :=
  g_in k1 65536 (thn (uB s 8 (vp_updL (s.2.2.2 8) k1.toNatClampNeg k2)) fun s1 =>
  (a_loop (fun (q : Int32 × RS) => X12_countWays_b35 v1 v2 q.1 q.2) FU ((0 : Int32), s1)).bind fun (t5 : RS) =>
    X12_countWays_j95 v1 v2 t5)
theorem X12_countWays_j32_ok (hh : mo + 18 ≤ h.2.1) (v1 : Int32) (v2 : Int32) (k1 : Int32) (k2 : Int64) (s : RS) : aS l 1 MX12_countWays n0 S0 (a_LΦ (X12_countWays_x2 l n0 S0 mo h v1) l 1 MX12_countWays n0 S0 2 (fun (q : Int32 × RS) => [(0, .ref mo), (1, .int v1), (2, .int q.1)]) (fun _ => []) (fun (q : Int32 × RS) => rH mo h q.2)) 32 [(0, .ref mo), (1, .int v1), (2, .int v2)] [.long k2, .int k1, .ref (mo + 9)] (rH mo h s) (X12_countWays_j32 v1 v2 k1 k2 s) := by
  unfold X12_countWays_j32
  refine rs_8 hh (pc := 32) dX12_countWays_32 (fun s1 => ?_)
  refine s_iconst (v := 0) (pc := 33) dX12_countWays_33 (by decide) ?_
  refine s_istore_n (lv' := [(3, .int 0), (0, .ref mo), (1, .int v1), (2, .int v2)]) (pc := 34) dX12_countWays_34 (by decide) rfl ?_
  refine s_bind (Ψ := X12_countWays_x35 l n0 S0 mo h v1 v2) ?_ ?_
  · refine s_sub [1, 2, 3, 0] rfl ?_
    exact s_loop (lvf := fun (q : Int32 × RS) => [(0, .ref mo), (1, .int v1), (2, .int v2), (3, .int q.1)]) (stf := fun _ => []) (hf := fun (q : Int32 × RS) => rH mo h q.2) (fun q => X12_countWays_b35_ok hh v1 v2 q.1 q.2) FU ((0 : Int32), s1)
  · intro t5 z r h' hz hr
    refine (?_ : aS l 1 MX12_countWays n0 S0 (a_LΦ (X12_countWays_x2 l n0 S0 mo h v1) l 1 MX12_countWays n0 S0 2 (fun (q : Int32 × RS) => [(0, .ref mo), (1, .int v1), (2, .int q.1)]) (fun _ => []) (fun (q : Int32 × RS) => rH mo h q.2)) 95 [(0, .ref mo), (1, .int v1), (2, .int v2)] [] (rH mo h t5) _) z hz r h' hr
    exact X12_countWays_j95_ok hh v1 v2 t5
def X12_countWays_b2 (v1 : Int32) (v2 : Int32) (s : RS) : Option ((Int32 × RS) ⊕ RS) :=
  if v2 < 0 then
    some (.inr s)
  else
    if (v2 &&& (v1 ^^^ (-1 : Int32))) = 0 then
      if v2 = v1 then
        X12_countWays_j32 v1 v2 v2 (1 : Int64) s
      else
        X12_countWays_j32 v1 v2 v2 (0 : Int64) s
    else
      X12_countWays_j95 v1 v2 s
theorem X12_countWays_b2_ok (hh : mo + 18 ≤ h.2.1) (v1 : Int32) (v2 : Int32) (s : RS) : aS l 1 MX12_countWays n0 S0 (a_LΦ (X12_countWays_x2 l n0 S0 mo h v1) l 1 MX12_countWays n0 S0 2 (fun (q : Int32 × RS) => [(0, .ref mo), (1, .int v1), (2, .int q.1)]) (fun _ => []) (fun (q : Int32 × RS) => rH mo h q.2)) 2 [(0, .ref mo), (1, .int v1), (2, .int v2)] [] (rH mo h s) (X12_countWays_b2 v1 v2 s) := by
  unfold X12_countWays_b2
  refine s_iload_n (pc := 2) 2 dX12_countWays_2 rfl ?_
  refine s_if_lt (tgt := 101) (pc := 3) dX12_countWays_3 (by decide) (fun _ => ?_) (fun _ => ?_)
  · refine s_sub [] rfl ?_
    exact s_ev (fun _ _ q => q)
  · refine s_iload_n (pc := 6) 2 dX12_countWays_6 rfl ?_
    refine s_iload_n (pc := 7) 1 dX12_countWays_7 rfl ?_
    refine s_iconst (v := (-1)) (pc := 8) dX12_countWays_8 (by decide) ?_
    refine s_ixor (pc := 9) dX12_countWays_9 ?_
    refine s_iand (pc := 10) dX12_countWays_10 ?_
    refine s_if_eq (tgt := 17) (pc := 11) dX12_countWays_11 (by decide) (fun _ => ?_) (fun _ => ?_)
    · refine s_aload_n (pc := 17) 0 dX12_countWays_17 rfl ?_
      refine rg_48 hh (pc := 18) dX12_countWays_18 rfl ?_
      refine s_iload_n (pc := 21) 2 dX12_countWays_21 rfl ?_
      refine s_iload_n (pc := 22) 2 dX12_countWays_22 rfl ?_
      refine s_iload_n (pc := 23) 1 dX12_countWays_23 rfl ?_
      refine s_icmp_ne (tgt := 31) (pc := 24) dX12_countWays_24 (by decide) (fun _ => ?_) (fun _ => ?_)
      · refine s_lconst (v := 1) (pc := 27) dX12_countWays_27 (by decide) ?_
        refine s_goto (tgt := 32) (pc := 28) dX12_countWays_28 (by decide) ?_
        exact X12_countWays_j32_ok hh v1 v2 v2 (1 : Int64) s
      · refine s_lconst (v := 0) (pc := 31) dX12_countWays_31 (by decide) ?_
        exact X12_countWays_j32_ok hh v1 v2 v2 (0 : Int64) s
    · refine s_goto (tgt := 95) (pc := 14) dX12_countWays_14 (by decide) ?_
      exact X12_countWays_j95_ok hh v1 v2 s
def pX12_countWays (s : RS) (a0 : Int32) : Option RS :=
  (a_loop (fun (q : Int32 × RS) => X12_countWays_b2 a0 q.1 q.2) FU (a0, s)).bind fun (t7 : RS) =>
    some t7
theorem pX12_countWays_w (hh : mo + 18 ≤ h.2.1) (s : RS) (a0 : Int32) : aS l 1 MX12_countWays n0 S0 (oΦ (fun (x : RS) => (none, rH mo h x))) 0 [(0, .ref mo), (1, .int a0)] [] (rH mo h s) (pX12_countWays s a0) := by
  unfold pX12_countWays
  refine s_iload_n (pc := 0) 1 dX12_countWays_0 rfl ?_
  refine s_istore_n (lv' := [(2, .int a0), (0, .ref mo), (1, .int a0)]) (pc := 1) dX12_countWays_1 (by decide) rfl ?_
  refine s_bind (Ψ := X12_countWays_x2 l n0 S0 mo h a0) ?_ ?_
  · refine s_sub [1, 2, 0] rfl ?_
    exact s_loop (lvf := fun (q : Int32 × RS) => [(0, .ref mo), (1, .int a0), (2, .int q.1)]) (stf := fun _ => []) (hf := fun (q : Int32 × RS) => rH mo h q.2) (fun q => X12_countWays_b2_ok hh a0 q.1 q.2) FU (a0, s)
  · intro t7 z r h' hz hr
    refine (?_ : aS l 1 MX12_countWays n0 S0 (oΦ (fun (x : RS) => (none, rH mo h x))) 101 [] [] (rH mo h t7) _) z hz r h' hr
    exact s_vret (pc := 101) dX12_countWays_101 rfl (fun _ _ q => q)
theorem pX12_countWays_ok (hh : mo + 18 ≤ h.2.1) (s : RS) (a0 : Int32) : ∀ x, pX12_countWays s a0 = some x → aMet l 1 yX12_countWays cX12_countWays 4 none [.ref mo, .int a0] (rH mo h s) none (rH mo h x) := fun x hx => a_meth (ini := false) (y := yX12_countWays) (by decide +kernel) (fun q => by cases q) (fun _ => Nat.le_of_ble_eq_true rfl) (pX12_countWays_w hh s a0) x hx _ _ ⟨rfl, rfl⟩
end
section
variable {l : Launch} {n0 S0 : Nat} {mo : Nat} {h : aH}
abbrev MX12_orders : aM := (cX12_orders, RX12, 2, (some .long), false)
def pX12_orders (s : RS) (a0 : Int32) : Option (Int64 × RS) :=
  thn (uI s 1 (0 : Int32)) fun s1 =>
  (pX12_whyNot s1 a0).bind fun x2 =>
  thn (uI s1 0 x2) fun s3 =>
  if (s3.1 0) ≤ 0 then
    (pX12_need s3 a0 (-1 : Int32) (-1 : Int32)).bind fun x4 =>
    (pX12_countWays x4 a0).bind fun x5 =>
    g_in (0 : Int32) 65536 (
    some ((x5.2.2.2 8 (0 : Int32).toNatClampNeg), x5))
  else
    some ((-1 : Int64), s3)
theorem pX12_orders_w (hh : mo + 18 ≤ h.2.1) (s : RS) (a0 : Int32) : aS l 3 MX12_orders n0 S0 (oΦ (fun (x : Int64 × RS) => (some (.long x.1), rH mo h x.2))) 0 [(0, .ref mo), (1, .int a0)] [] (rH mo h s) (pX12_orders s a0) := by
  unfold pX12_orders
  refine s_aload_n (pc := 0) 0 dX12_orders_0 rfl ?_
  refine s_iconst (v := 0) (pc := 1) dX12_orders_1 (by decide) ?_
  refine rp_75 hh (pc := 2) dX12_orders_2 rfl (fun s1 => ?_)
  refine s_aload_n (pc := 5) 0 dX12_orders_5 rfl ?_
  refine s_aload_n (pc := 6) 0 dX12_orders_6 rfl ?_
  refine s_iload_n (pc := 7) 1 dX12_orders_7 rfl ?_
  refine s_callV (M := MX12_orders) (As := [.int a0]) (st := [.ref mo]) (Ψ := fun (x : Int32) => (some (.int x), rH mo h s1)) cv_X12_349 (by decide) (pc := 8) dX12_orders_8 r_0 (r_lt (k := 0) hh (by decide)) rfl (Nat.le_of_ble_eq_true rfl) (fun x hx => pX12_whyNot_ok hh s1 a0 x hx) rfl (fun x2 _ => ?_)
  refine rp_78 hh (pc := 11) dX12_orders_11 rfl (fun s3 => ?_)
  refine s_aload_n (pc := 14) 0 dX12_orders_14 rfl ?_
  refine rg_78 hh (pc := 15) dX12_orders_15 rfl ?_
  refine s_if_le (tgt := 25) (pc := 18) dX12_orders_18 (by decide) (fun _ => ?_) (fun _ => ?_)
  · refine s_aload_n (pc := 25) 0 dX12_orders_25 rfl ?_
    refine s_iload_n (pc := 26) 1 dX12_orders_26 rfl ?_
    refine s_iconst (v := (-1)) (pc := 27) dX12_orders_27 (by decide) ?_
    refine s_iconst (v := (-1)) (pc := 28) dX12_orders_28 (by decide) ?_
    refine s_callV (M := MX12_orders) (As := [.int a0, .int (-1), .int (-1)]) (st := []) (Ψ := fun (x : RS) => (none, rH mo h x)) cv_X12_377 (by decide) (pc := 29) dX12_orders_29 r_0 (r_lt (k := 0) hh (by decide)) rfl (Nat.le_of_ble_eq_true rfl) (fun x hx => pX12_need_ok hh s3 a0 (-1 : Int32) (-1 : Int32) x hx) rfl (fun x4 _ => ?_)
    refine s_aload_n (pc := 32) 0 dX12_orders_32 rfl ?_
    refine s_iload_n (pc := 33) 1 dX12_orders_33 rfl ?_
    refine s_callV (M := MX12_orders) (As := [.int a0]) (st := []) (Ψ := fun (x : RS) => (none, rH mo h x)) cv_X12_381 (by decide) (pc := 34) dX12_orders_34 r_0 (r_lt (k := 0) hh (by decide)) rfl (Nat.le_of_ble_eq_true rfl) (fun x hx => pX12_countWays_ok hh x4 a0 x hx) rfl (fun x5 _ => ?_)
    refine s_aload_n (pc := 37) 0 dX12_orders_37 rfl ?_
    refine rg_48 hh (pc := 38) dX12_orders_38 rfl ?_
    refine s_iconst (v := 0) (pc := 41) dX12_orders_41 (by decide) ?_
    refine rl_8 hh (pc := 42) dX12_orders_42 ?_
    exact s_lret (pc := 43) dX12_orders_43 rfl (fun _ _ q => q)
  · refine s_ldc2 (v := (-1)) (pc := 21) dX12_orders_21 wk_X12_106 ?_
    exact s_lret (pc := 24) dX12_orders_24 rfl (fun _ _ q => q)
theorem pX12_orders_ok (hh : mo + 18 ≤ h.2.1) (s : RS) (a0 : Int32) : ∀ x, pX12_orders s a0 = some x → aMet l 3 yX12_orders cX12_orders 2 (some .long) [.ref mo, .int a0] (rH mo h s) (some (.long x.1)) (rH mo h x.2) := fun x hx => a_meth (ini := false) (y := yX12_orders) (by decide +kernel) (fun q => by cases q) (fun _ => Nat.le_of_ble_eq_true rfl) (pX12_orders_w hh s a0) x hx _ _ ⟨rfl, rfl⟩
end
section
variable {l : Launch} {n0 S0 : Nat} {mo : Nat} {h : aH}
abbrev MX12_ahead : aM := (cX12_ahead, RX12, 6, (some .boolean), false)
def X12_ahead_j55 (s : RS) : Option (Bool × RS) :=
  (pX12_no s (2 : Int32)).bind fun x4 =>
  some (x4.1, x4.2)
theorem X12_ahead_j55_ok (hh : mo + 18 ≤ h.2.1) (s : RS) : aS l 2 MX12_ahead n0 S0 (oΦ (fun (x : Bool × RS) => (some (.int (b2i x.1)), rH mo h x.2))) 55 [(0, .ref mo)] [] (rH mo h s) (X12_ahead_j55 s) := by
  unfold X12_ahead_j55
  refine s_aload_n (pc := 55) 0 dX12_ahead_55 rfl ?_
  refine s_iconst (v := 2) (pc := 56) dX12_ahead_56 (by decide) ?_
  refine s_callV (M := MX12_ahead) (As := [.int 2]) (st := []) (Ψ := fun (x : Bool × RS) => (some (.int (b2i x.1)), rH mo h x.2)) cv_X12_90 (by decide) (pc := 57) dX12_ahead_57 r_0 (r_lt (k := 0) hh (by decide)) rfl (Nat.le_of_ble_eq_true rfl) (fun x hx => pX12_no_ok hh s (2 : Int32) x hx) rfl (fun x4 _ => ?_)
  exact s_zretB (b := x4.1) (pc := 60) dX12_ahead_60 rfl (fun _ _ q => q)
def pX12_ahead (s : RS) (a0 : Int32) (a1 : Int32) (a2 : Int32) : Option (Bool × RS) :=
  thn (uI s 1 (0 : Int32)) fun s1 =>
  thn (uI s1 0 (0 : Int32)) fun s2 =>
  (pX12_isSet s2 a0).bind fun x3 =>
  if x3 = true then
    (pX12_isChange s2 a1).bind fun x5 =>
    if x5 = true then
      (pX12_isChange s2 a2).bind fun x6 =>
      if x6 = true then
        if a1 = a2 then
          X12_ahead_j55 s2
        else
          (pX12_hasIn a0 a1).bind fun x7 =>
          if x7 = true then
            (pX12_hasIn a0 a2).bind fun x8 =>
            if x8 = true then
              (pX12_lackOf s2 a0).bind fun x9 =>
              if x9 = 0 then
                (pX12_need s2 a0 (-1 : Int32) (-1 : Int32)).bind fun x10 =>
                (pX12_countWays x10 a0).bind fun x11 =>
                g_in (0 : Int32) 65536 (
                thn (x11.2.2.2 8 (0 : Int32).toNatClampNeg) fun x12 =>
                (pX12_need x11 a0 a1 a2).bind fun x13 =>
                (pX12_countWays x13 a0).bind fun x14 =>
                g_in (0 : Int32) 65536 (
                (pX12_fraction x14 (x14.2.2.2 8 (0 : Int32).toNatClampNeg) x12).bind fun x15 =>
                some (x15.1, x15.2)))
              else
                (pX12_no s2 (9 : Int32)).bind fun x16 =>
                some (x16.1, x16.2)
            else
              X12_ahead_j55 s2
          else
            X12_ahead_j55 s2
      else
        X12_ahead_j55 s2
    else
      X12_ahead_j55 s2
  else
    X12_ahead_j55 s2
theorem pX12_ahead_w (hh : mo + 18 ≤ h.2.1) (s : RS) (a0 : Int32) (a1 : Int32) (a2 : Int32) : aS l 2 MX12_ahead n0 S0 (oΦ (fun (x : Bool × RS) => (some (.int (b2i x.1)), rH mo h x.2))) 0 [(0, .ref mo), (1, .int a0), (2, .int a1), (3, .int a2)] [] (rH mo h s) (pX12_ahead s a0 a1 a2) := by
  unfold pX12_ahead
  refine s_aload_n (pc := 0) 0 dX12_ahead_0 rfl ?_
  refine s_iconst (v := 0) (pc := 1) dX12_ahead_1 (by decide) ?_
  refine rp_75 hh (pc := 2) dX12_ahead_2 rfl (fun s1 => ?_)
  refine s_aload_n (pc := 5) 0 dX12_ahead_5 rfl ?_
  refine s_iconst (v := 0) (pc := 6) dX12_ahead_6 (by decide) ?_
  refine rp_78 hh (pc := 7) dX12_ahead_7 rfl (fun s2 => ?_)
  refine s_aload_n (pc := 10) 0 dX12_ahead_10 rfl ?_
  refine s_iload_n (pc := 11) 1 dX12_ahead_11 rfl ?_
  refine s_callV (M := MX12_ahead) (As := [.int a0]) (st := []) (Ψ := fun (x : Bool) => (some (.int (b2i x)), rH mo h s2)) cv_X12_319 (by decide) (pc := 12) dX12_ahead_12 r_0 (r_lt (k := 0) hh (by decide)) rfl (Nat.le_of_ble_eq_true rfl) (fun x hx => pX12_isSet_ok hh s2 a0 x hx) rfl (fun x3 _ => ?_)
  refine s_if_eqB (tgt := 55) (pc := 15) dX12_ahead_15 (by decide) (fun _ => ?_) (fun _ => ?_)
  · refine s_aload_n (pc := 18) 0 dX12_ahead_18 rfl ?_
    refine s_iload_n (pc := 19) 2 dX12_ahead_19 rfl ?_
    refine s_callV (M := MX12_ahead) (As := [.int a1]) (st := []) (Ψ := fun (x : Bool) => (some (.int (b2i x)), rH mo h s2)) cv_X12_311 (by decide) (pc := 20) dX12_ahead_20 r_0 (r_lt (k := 0) hh (by decide)) rfl (Nat.le_of_ble_eq_true rfl) (fun x hx => pX12_isChange_ok hh s2 a1 x hx) rfl (fun x5 _ => ?_)
    refine s_if_eqB (tgt := 55) (pc := 23) dX12_ahead_23 (by decide) (fun _ => ?_) (fun _ => ?_)
    · refine s_aload_n (pc := 26) 0 dX12_ahead_26 rfl ?_
      refine s_iload_n (pc := 27) 3 dX12_ahead_27 rfl ?_
      refine s_callV (M := MX12_ahead) (As := [.int a2]) (st := []) (Ψ := fun (x : Bool) => (some (.int (b2i x)), rH mo h s2)) cv_X12_311 (by decide) (pc := 28) dX12_ahead_28 r_0 (r_lt (k := 0) hh (by decide)) rfl (Nat.le_of_ble_eq_true rfl) (fun x hx => pX12_isChange_ok hh s2 a2 x hx) rfl (fun x6 _ => ?_)
      refine s_if_eqB (tgt := 55) (pc := 31) dX12_ahead_31 (by decide) (fun _ => ?_) (fun _ => ?_)
      · refine s_iload_n (pc := 34) 2 dX12_ahead_34 rfl ?_
        refine s_iload_n (pc := 35) 3 dX12_ahead_35 rfl ?_
        refine s_icmp_eq (tgt := 55) (pc := 36) dX12_ahead_36 (by decide) (fun _ => ?_) (fun _ => ?_)
        · refine s_sub [0] rfl ?_
          exact X12_ahead_j55_ok hh s2
        · refine s_iload_n (pc := 39) 1 dX12_ahead_39 rfl ?_
          refine s_iload_n (pc := 40) 2 dX12_ahead_40 rfl ?_
          refine s_callS (M := MX12_ahead) (As := [.int a0, .int a1]) (st := []) (Ψ := fun (x : Bool) => (some (.int (b2i x)), rH mo h s2)) cs_X12_302 (by decide) (pc := 41) dX12_ahead_41 rfl (Nat.le_of_ble_eq_true rfl) (fun x hx => pX12_hasIn_ok a0 a1 x hx) rfl (fun x7 _ => ?_)
          refine s_if_eqB (tgt := 55) (pc := 44) dX12_ahead_44 (by decide) (fun _ => ?_) (fun _ => ?_)
          · refine s_iload_n (pc := 47) 1 dX12_ahead_47 rfl ?_
            refine s_iload_n (pc := 48) 3 dX12_ahead_48 rfl ?_
            refine s_callS (M := MX12_ahead) (As := [.int a0, .int a2]) (st := []) (Ψ := fun (x : Bool) => (some (.int (b2i x)), rH mo h s2)) cs_X12_302 (by decide) (pc := 49) dX12_ahead_49 rfl (Nat.le_of_ble_eq_true rfl) (fun x hx => pX12_hasIn_ok a0 a2 x hx) rfl (fun x8 _ => ?_)
            refine s_if_neB (tgt := 61) (pc := 52) dX12_ahead_52 (by decide) (fun _ => ?_) (fun _ => ?_)
            · refine s_aload_n (pc := 61) 0 dX12_ahead_61 rfl ?_
              refine s_iload_n (pc := 62) 1 dX12_ahead_62 rfl ?_
              refine s_callV (M := MX12_ahead) (As := [.int a0]) (st := []) (Ψ := fun (x : Int32) => (some (.int x), rH mo h s2)) cv_X12_322 (by decide) (pc := 63) dX12_ahead_63 r_0 (r_lt (k := 0) hh (by decide)) rfl (Nat.le_of_ble_eq_true rfl) (fun x hx => pX12_lackOf_ok hh s2 a0 x hx) rfl (fun x9 _ => ?_)
              refine s_if_eq (tgt := 76) (pc := 66) dX12_ahead_66 (by decide) (fun _ => ?_) (fun _ => ?_)
              · refine s_aload_n (pc := 76) 0 dX12_ahead_76 rfl ?_
                refine s_iload_n (pc := 77) 1 dX12_ahead_77 rfl ?_
                refine s_iconst (v := (-1)) (pc := 78) dX12_ahead_78 (by decide) ?_
                refine s_iconst (v := (-1)) (pc := 79) dX12_ahead_79 (by decide) ?_
                refine s_callV (M := MX12_ahead) (As := [.int a0, .int (-1), .int (-1)]) (st := []) (Ψ := fun (x : RS) => (none, rH mo h x)) cv_X12_377 (by decide) (pc := 80) dX12_ahead_80 r_0 (r_lt (k := 0) hh (by decide)) rfl (Nat.le_of_ble_eq_true rfl) (fun x hx => pX12_need_ok hh s2 a0 (-1 : Int32) (-1 : Int32) x hx) rfl (fun x10 _ => ?_)
                refine s_aload_n (pc := 83) 0 dX12_ahead_83 rfl ?_
                refine s_iload_n (pc := 84) 1 dX12_ahead_84 rfl ?_
                refine s_callV (M := MX12_ahead) (As := [.int a0]) (st := []) (Ψ := fun (x : RS) => (none, rH mo h x)) cv_X12_381 (by decide) (pc := 85) dX12_ahead_85 r_0 (r_lt (k := 0) hh (by decide)) rfl (Nat.le_of_ble_eq_true rfl) (fun x hx => pX12_countWays_ok hh x10 a0 x hx) rfl (fun x11 _ => ?_)
                refine s_aload_n (pc := 88) 0 dX12_ahead_88 rfl ?_
                refine rg_48 hh (pc := 89) dX12_ahead_89 rfl ?_
                refine s_iconst (v := 0) (pc := 92) dX12_ahead_92 (by decide) ?_
                refine rl_8 hh (pc := 93) dX12_ahead_93 ?_
                refine s_lstoreT (lv' := fun x12 => [(4, .long x12), (0, .ref mo), (1, .int a0), (2, .int a1), (3, .int a2)]) (pc := 94) dX12_ahead_94 (by decide) (fun _ => rfl) (fun x12 => ?_)
                refine s_aload_n (pc := 96) 1 dX12_ahead_96 rfl ?_
                refine s_iload_n (pc := 97) 2 dX12_ahead_97 rfl ?_
                refine s_iload_n (pc := 98) 3 dX12_ahead_98 rfl ?_
                refine s_iload_n (pc := 99) 4 dX12_ahead_99 rfl ?_
                refine s_callV (M := MX12_ahead) (As := [.int a0, .int a1, .int a2]) (st := []) (Ψ := fun (x : RS) => (none, rH mo h x)) cv_X12_377 (by decide) (pc := 100) dX12_ahead_100 r_0 (r_lt (k := 0) hh (by decide)) rfl (Nat.le_of_ble_eq_true rfl) (fun x hx => pX12_need_ok hh x11 a0 a1 a2 x hx) rfl (fun x13 _ => ?_)
                refine s_aload_n (pc := 103) 1 dX12_ahead_103 rfl ?_
                refine s_iload_n (pc := 104) 2 dX12_ahead_104 rfl ?_
                refine s_callV (M := MX12_ahead) (As := [.int a0]) (st := []) (Ψ := fun (x : RS) => (none, rH mo h x)) cv_X12_381 (by decide) (pc := 105) dX12_ahead_105 r_0 (r_lt (k := 0) hh (by decide)) rfl (Nat.le_of_ble_eq_true rfl) (fun x hx => pX12_countWays_ok hh x13 a0 x hx) rfl (fun x14 _ => ?_)
                refine s_aload_n (pc := 108) 1 dX12_ahead_108 rfl ?_
                refine s_aload_n (pc := 109) 1 dX12_ahead_109 rfl ?_
                refine rg_48 hh (pc := 110) dX12_ahead_110 rfl ?_
                refine s_iconst (v := 0) (pc := 113) dX12_ahead_113 (by decide) ?_
                refine rl_8 hh (pc := 114) dX12_ahead_114 ?_
                refine s_lload (pc := 115) 0 dX12_ahead_115 rfl ?_
                refine s_callV (M := MX12_ahead) (As := [.long (x14.2.2.2 8 (0 : Int32).toNatClampNeg), .long x12]) (st := []) (Ψ := fun (x : Bool × RS) => (some (.int (b2i x.1)), rH mo h x.2)) cv_X12_384 (by decide) (pc := 117) dX12_ahead_117 r_0 (r_lt (k := 0) hh (by decide)) rfl (Nat.le_of_ble_eq_true rfl) (fun x hx => pX12_fraction_ok hh x14 (x14.2.2.2 8 (0 : Int32).toNatClampNeg) x12 x hx) rfl (fun x15 _ => ?_)
                exact s_zretB (b := x15.1) (pc := 120) dX12_ahead_120 rfl (fun _ _ q => q)
              · refine s_aload_n (pc := 69) 0 dX12_ahead_69 rfl ?_
                refine s_bipush (v := 9) (pc := 70) dX12_ahead_70 (by decide) ?_
                refine s_callV (M := MX12_ahead) (As := [.int 9]) (st := []) (Ψ := fun (x : Bool × RS) => (some (.int (b2i x.1)), rH mo h x.2)) cv_X12_90 (by decide) (pc := 72) dX12_ahead_72 r_0 (r_lt (k := 0) hh (by decide)) rfl (Nat.le_of_ble_eq_true rfl) (fun x hx => pX12_no_ok hh s2 (9 : Int32) x hx) rfl (fun x16 _ => ?_)
                exact s_zretB (b := x16.1) (pc := 75) dX12_ahead_75 rfl (fun _ _ q => q)
            · refine s_sub [0] rfl ?_
              exact X12_ahead_j55_ok hh s2
          · refine s_sub [0] rfl ?_
            exact X12_ahead_j55_ok hh s2
      · refine s_sub [0] rfl ?_
        exact X12_ahead_j55_ok hh s2
    · refine s_sub [0] rfl ?_
      exact X12_ahead_j55_ok hh s2
  · refine s_sub [0] rfl ?_
    exact X12_ahead_j55_ok hh s2
theorem pX12_ahead_ok (hh : mo + 18 ≤ h.2.1) (s : RS) (a0 : Int32) (a1 : Int32) (a2 : Int32) : ∀ x, pX12_ahead s a0 a1 a2 = some x → aMet l 2 yX12_ahead cX12_ahead 6 (some .boolean) [.ref mo, .int a0, .int a1, .int a2] (rH mo h s) (some (.int (b2i x.1))) (rH mo h x.2) := fun x hx => a_meth (ini := false) (y := yX12_ahead) (by decide +kernel) (fun q => by cases q) (fun _ => Nat.le_of_ble_eq_true rfl) (pX12_ahead_w hh s a0 a1 a2) x hx _ _ ⟨rfl, rfl⟩
end
section
variable {l : Launch} {n0 S0 : Nat} {mo : Nat} {h : aH}
abbrev MX12_ordered : aM := (cX12_ordered, RX12, 11, (some .int), false)
def X12_ordered_x66 (l : Launch) (n0 S0 : Nat) (mo : Nat) (h : aH) (v1 : Int32) : (Int32 × RS) → Option Value → aH → Prop := fun (x : Int32 × RS) r h' => aEv l 3 MX12_ordered n0 S0 207 [(0, .ref mo), (7, .int x.1)] [] (rH mo h x.2) r h'
def X12_ordered_x78 (l : Launch) (n0 S0 : Nat) (mo : Nat) (h : aH) (v1 : Int32) (v6 : Int32) (v7 : Int32) (s : RS) : (Int64 × Int32) → Option Value → aH → Prop := fun (x : Int64 × Int32) r h' => aEv l 3 MX12_ordered n0 S0 180 [(0, .ref mo), (1, .int v1), (4, .long x.1), (6, .int v6), (7, .int v7), (8, .int x.2)] [] (rH mo h s) r h'
def X12_ordered_j177 (v1 : Int32) (v4 : Int64) (v6 : Int32) (v7 : Int32) (v8 : Int32) (v9 : Bool) (s : RS) : Option ((Int64 × Int32 × Bool) ⊕ (Int64 × Int32)) :=
  some (.inl (v4, v8, v9))
theorem X12_ordered_j177_ok (hh : mo + 18 ≤ h.2.1) (v1 : Int32) (v4 : Int64) (v6 : Int32) (v7 : Int32) (v8 : Int32) (v9 : Bool) (s : RS) : aS l 3 MX12_ordered n0 S0 (a_LΦ (X12_ordered_x78 l n0 S0 mo h v1 v6 v7 s) l 3 MX12_ordered n0 S0 78 (fun (q : Int64 × Int32 × Bool) => [(0, .ref mo), (1, .int v1), (4, .long q.1), (6, .int v6), (7, .int v7), (8, .int q.2.1), (9, .int (b2i q.2.2))]) (fun _ => []) (fun (q : Int64 × Int32 × Bool) => rH mo h s)) 177 [(0, .ref mo), (1, .int v1), (4, .long v4), (6, .int v6), (7, .int v7), (8, .int v8), (9, .int (b2i v9))] [] (rH mo h s) (X12_ordered_j177 v1 v4 v6 v7 v8 v9 s) := by
  unfold X12_ordered_j177
  refine s_goto (tgt := 78) (pc := 177) dX12_ordered_177 (by decide) ?_
  exact s_ev (fun _ _ q => q)
def X12_ordered_j171 (v1 : Int32) (v6 : Int32) (v7 : Int32) (v8 : Int32) (v9 : Bool) (k0 : Int64) (k1 : Int64) (s : RS) : Option ((Int64 × Int32 × Bool) ⊕ (Int64 × Int32)) :=
  thn (k0 - k1) fun x8 =>
  thn (v8 + 1) fun x9 =>
  X12_ordered_j177 v1 x8 v6 v7 x9 v9 s
theorem X12_ordered_j171_ok (hh : mo + 18 ≤ h.2.1) (v1 : Int32) (v6 : Int32) (v7 : Int32) (v8 : Int32) (v9 : Bool) (k0 : Int64) (k1 : Int64) (s : RS) : aS l 3 MX12_ordered n0 S0 (a_LΦ (X12_ordered_x78 l n0 S0 mo h v1 v6 v7 s) l 3 MX12_ordered n0 S0 78 (fun (q : Int64 × Int32 × Bool) => [(0, .ref mo), (1, .int v1), (4, .long q.1), (6, .int v6), (7, .int v7), (8, .int q.2.1), (9, .int (b2i q.2.2))]) (fun _ => []) (fun (q : Int64 × Int32 × Bool) => rH mo h s)) 171 [(0, .ref mo), (1, .int v1), (6, .int v6), (7, .int v7), (8, .int v8), (9, .int (b2i v9))] [.long k1, .long k0] (rH mo h s) (X12_ordered_j171 v1 v6 v7 v8 v9 k0 k1 s) := by
  unfold X12_ordered_j171
  refine s_lsub (pc := 171) dX12_ordered_171 ?_
  refine s_lstoreT (lv' := fun x8 => [(4, .long x8), (0, .ref mo), (1, .int v1), (6, .int v6), (7, .int v7), (8, .int v8), (9, .int (b2i v9))]) (pc := 172) dX12_ordered_172 (by decide) (fun _ => rfl) (fun x8 => ?_)
  refine s_iincT (pc := 174) 5 (lv' := fun x9 => [(8, .int x9), (4, .long x8), (0, .ref mo), (1, .int v1), (6, .int v6), (7, .int v7), (9, .int (b2i v9))]) dX12_ordered_174 rfl rfl (by decide) (fun _ => rfl) (fun x9 => ?_)
  refine s_sub [2, 3, 1, 4, 5, 0, 6] rfl ?_
  exact X12_ordered_j177_ok hh v1 x8 v6 v7 x9 v9 s
def X12_ordered_j148 (v1 : Int32) (v4 : Int64) (v6 : Int32) (v7 : Int32) (v8 : Int32) (v9 : Bool) (v10 : Bool) (s : RS) : Option ((Int64 × Int32 × Bool) ⊕ (Int64 × Int32)) :=
  if v10 = true then
    g_in (v6 ||| ((1 : Int32) <<< (v8 &&& 31))) 65536 (
    X12_ordered_j171 v1 v6 v7 v8 v9 v4 (s.2.2.2 8 (v6 ||| ((1 : Int32) <<< (v8 &&& 31))).toNatClampNeg) s)
  else
    X12_ordered_j171 v1 v6 v7 v8 v9 v4 (0 : Int64) s
theorem X12_ordered_j148_ok (hh : mo + 18 ≤ h.2.1) (v1 : Int32) (v4 : Int64) (v6 : Int32) (v7 : Int32) (v8 : Int32) (v9 : Bool) (v10 : Bool) (s : RS) : aS l 3 MX12_ordered n0 S0 (a_LΦ (X12_ordered_x78 l n0 S0 mo h v1 v6 v7 s) l 3 MX12_ordered n0 S0 78 (fun (q : Int64 × Int32 × Bool) => [(0, .ref mo), (1, .int v1), (4, .long q.1), (6, .int v6), (7, .int v7), (8, .int q.2.1), (9, .int (b2i q.2.2))]) (fun _ => []) (fun (q : Int64 × Int32 × Bool) => rH mo h s)) 148 [(0, .ref mo), (1, .int v1), (4, .long v4), (6, .int v6), (7, .int v7), (8, .int v8), (9, .int (b2i v9)), (10, .int (b2i v10))] [] (rH mo h s) (X12_ordered_j148 v1 v4 v6 v7 v8 v9 v10 s) := by
  unfold X12_ordered_j148
  refine s_lload (pc := 148) 2 dX12_ordered_148 rfl ?_
  refine s_iload (pc := 150) 7 dX12_ordered_150 rfl ?_
  refine s_if_eqB (tgt := 170) (pc := 152) dX12_ordered_152 (by decide) (fun _ => ?_) (fun _ => ?_)
  · refine s_aload_n (pc := 155) 0 dX12_ordered_155 rfl ?_
    refine rg_48 hh (pc := 156) dX12_ordered_156 rfl ?_
    refine s_iload (pc := 159) 3 dX12_ordered_159 rfl ?_
    refine s_iconst (v := 1) (pc := 161) dX12_ordered_161 (by decide) ?_
    refine s_iload (pc := 162) 5 dX12_ordered_162 rfl ?_
    refine s_ishl (pc := 164) dX12_ordered_164 ?_
    refine s_ior (pc := 165) dX12_ordered_165 ?_
    refine rl_8 hh (pc := 166) dX12_ordered_166 ?_
    refine s_goto (tgt := 171) (pc := 167) dX12_ordered_167 (by decide) ?_
    refine s_sub [0, 1, 3, 4, 5, 6] rfl ?_
    exact X12_ordered_j171_ok hh v1 v6 v7 v8 v9 v4 (s.2.2.2 8 (v6 ||| ((1 : Int32) <<< (v8 &&& 31))).toNatClampNeg) s
  · refine s_lconst (v := 0) (pc := 170) dX12_ordered_170 (by decide) ?_
    refine s_sub [0, 1, 3, 4, 5, 6] rfl ?_
    exact X12_ordered_j171_ok hh v1 v6 v7 v8 v9 v4 (0 : Int64) s
def X12_ordered_j117 (v1 : Int32) (v4 : Int64) (v6 : Int32) (v7 : Int32) (v8 : Int32) (v9 : Bool) (k0 : Bool) (s : RS) : Option ((Int64 × Int32 × Bool) ⊕ (Int64 × Int32)) :=
  if k0 = true then
    g_in (v6 ||| ((1 : Int32) <<< (v8 &&& 31))) 65536 (
    if (s.2.2.2 8 (v6 ||| ((1 : Int32) <<< (v8 &&& 31))).toNatClampNeg) ≤ v4 then
      X12_ordered_j148 v1 v4 v6 v7 v8 v9 k0 s
    else
      X12_ordered_j177 v1 v4 v6 v7 v8 true s)
  else
    X12_ordered_j148 v1 v4 v6 v7 v8 v9 k0 s
theorem X12_ordered_j117_ok (hh : mo + 18 ≤ h.2.1) (v1 : Int32) (v4 : Int64) (v6 : Int32) (v7 : Int32) (v8 : Int32) (v9 : Bool) (k0 : Bool) (s : RS) : aS l 3 MX12_ordered n0 S0 (a_LΦ (X12_ordered_x78 l n0 S0 mo h v1 v6 v7 s) l 3 MX12_ordered n0 S0 78 (fun (q : Int64 × Int32 × Bool) => [(0, .ref mo), (1, .int v1), (4, .long q.1), (6, .int v6), (7, .int v7), (8, .int q.2.1), (9, .int (b2i q.2.2))]) (fun _ => []) (fun (q : Int64 × Int32 × Bool) => rH mo h s)) 117 [(0, .ref mo), (1, .int v1), (4, .long v4), (6, .int v6), (7, .int v7), (8, .int v8), (9, .int (b2i v9))] [.int (b2i k0)] (rH mo h s) (X12_ordered_j117 v1 v4 v6 v7 v8 v9 k0 s) := by
  unfold X12_ordered_j117
  refine s_istore (lv' := [(10, .int (b2i k0)), (0, .ref mo), (1, .int v1), (4, .long v4), (6, .int v6), (7, .int v7), (8, .int v8), (9, .int (b2i v9))]) (pc := 117) dX12_ordered_117 (by decide) rfl ?_
  refine s_iload (pc := 119) 0 dX12_ordered_119 rfl ?_
  refine s_if_eqB (tgt := 148) (pc := 121) dX12_ordered_121 (by decide) (fun _ => ?_) (fun _ => ?_)
  · refine s_lload (pc := 124) 3 dX12_ordered_124 rfl ?_
    refine s_aload_n (pc := 126) 1 dX12_ordered_126 rfl ?_
    refine rg_48 hh (pc := 127) dX12_ordered_127 rfl ?_
    refine s_iload (pc := 130) 4 dX12_ordered_130 rfl ?_
    refine s_iconst (v := 1) (pc := 132) dX12_ordered_132 (by decide) ?_
    refine s_iload (pc := 133) 6 dX12_ordered_133 rfl ?_
    refine s_ishl (pc := 135) dX12_ordered_135 ?_
    refine s_ior (pc := 136) dX12_ordered_136 ?_
    refine rl_8 hh (pc := 137) dX12_ordered_137 ?_
    refine s_lcmp (pc := 138) dX12_ordered_138 ?_
    refine s_ifL (lg_cmp_ge _ _) (s_if_ge (tgt := 148) (pc := 139) dX12_ordered_139 (by decide) (fun _ => ?_) (fun _ => ?_))
    · refine s_sub [1, 2, 3, 4, 5, 6, 7, 0] rfl ?_
      exact X12_ordered_j148_ok hh v1 v4 v6 v7 v8 v9 k0 s
    · refine s_iconst (v := 1) (pc := 142) dX12_ordered_142 (by decide) ?_
      refine s_istore (lv' := [(9, .int 1), (10, .int (b2i k0)), (0, .ref mo), (1, .int v1), (4, .long v4), (6, .int v6), (7, .int v7), (8, .int v8)]) (pc := 143) dX12_ordered_143 (by decide) rfl ?_
      refine s_goto (tgt := 177) (pc := 145) dX12_ordered_145 (by decide) ?_
      refine s_sub [2, 3, 4, 5, 6, 7, 0] rfl ?_
      exact X12_ordered_j177_ok hh v1 v4 v6 v7 v8 true s
  · refine s_sub [1, 2, 3, 4, 5, 6, 7, 0] rfl ?_
    exact X12_ordered_j148_ok hh v1 v4 v6 v7 v8 v9 k0 s
def X12_ordered_j116 (v1 : Int32) (v4 : Int64) (v6 : Int32) (v7 : Int32) (v8 : Int32) (v9 : Bool) (s : RS) : Option ((Int64 × Int32 × Bool) ⊕ (Int64 × Int32)) :=
  X12_ordered_j117 v1 v4 v6 v7 v8 v9 false s
theorem X12_ordered_j116_ok (hh : mo + 18 ≤ h.2.1) (v1 : Int32) (v4 : Int64) (v6 : Int32) (v7 : Int32) (v8 : Int32) (v9 : Bool) (s : RS) : aS l 3 MX12_ordered n0 S0 (a_LΦ (X12_ordered_x78 l n0 S0 mo h v1 v6 v7 s) l 3 MX12_ordered n0 S0 78 (fun (q : Int64 × Int32 × Bool) => [(0, .ref mo), (1, .int v1), (4, .long q.1), (6, .int v6), (7, .int v7), (8, .int q.2.1), (9, .int (b2i q.2.2))]) (fun _ => []) (fun (q : Int64 × Int32 × Bool) => rH mo h s)) 116 [(0, .ref mo), (1, .int v1), (4, .long v4), (6, .int v6), (7, .int v7), (8, .int v8), (9, .int (b2i v9))] [] (rH mo h s) (X12_ordered_j116 v1 v4 v6 v7 v8 v9 s) := by
  unfold X12_ordered_j116
  refine s_iconst (v := 0) (pc := 116) dX12_ordered_116 (by decide) ?_
  exact X12_ordered_j117_ok hh v1 v4 v6 v7 v8 v9 false s
def X12_ordered_b78 (v1 : Int32) (v6 : Int32) (v7 : Int32) (v4 : Int64) (v8 : Int32) (v9 : Bool) (s : RS) : Option ((Int64 × Int32 × Bool) ⊕ (Int64 × Int32)) :=
  if v9 = true then
    some (.inr (v4, v8))
  else
    (pX12_hasIn (v1 &&& (v6 ^^^ (-1 : Int32))) v8).bind fun x7 =>
    if x7 = true then
      g_in v8 16 (
      if ((s.2.2.1 9 v8.toNatClampNeg) &&& (v6 ^^^ (-1 : Int32))) = 0 then
        X12_ordered_j117 v1 v4 v6 v7 v8 v9 true s
      else
        X12_ordered_j116 v1 v4 v6 v7 v8 v9 s)
    else
      X12_ordered_j116 v1 v4 v6 v7 v8 v9 s
theorem X12_ordered_b78_ok (hh : mo + 18 ≤ h.2.1) (v1 : Int32) (v6 : Int32) (v7 : Int32) (v4 : Int64) (v8 : Int32) (v9 : Bool) (s : RS) : aS l 3 MX12_ordered n0 S0 (a_LΦ (X12_ordered_x78 l n0 S0 mo h v1 v6 v7 s) l 3 MX12_ordered n0 S0 78 (fun (q : Int64 × Int32 × Bool) => [(0, .ref mo), (1, .int v1), (4, .long q.1), (6, .int v6), (7, .int v7), (8, .int q.2.1), (9, .int (b2i q.2.2))]) (fun _ => []) (fun (q : Int64 × Int32 × Bool) => rH mo h s)) 78 [(0, .ref mo), (1, .int v1), (4, .long v4), (6, .int v6), (7, .int v7), (8, .int v8), (9, .int (b2i v9))] [] (rH mo h s) (X12_ordered_b78 v1 v6 v7 v4 v8 v9 s) := by
  unfold X12_ordered_b78
  refine s_iload (pc := 78) 6 dX12_ordered_78 rfl ?_
  refine s_if_neB (tgt := 180) (pc := 80) dX12_ordered_80 (by decide) (fun _ => ?_) (fun _ => ?_)
  · refine s_sub [0, 1, 2, 3, 4, 5] rfl ?_
    exact s_ev (fun _ _ q => q)
  · refine s_iload_n (pc := 83) 1 dX12_ordered_83 rfl ?_
    refine s_iload (pc := 84) 3 dX12_ordered_84 rfl ?_
    refine s_iconst (v := (-1)) (pc := 86) dX12_ordered_86 (by decide) ?_
    refine s_ixor (pc := 87) dX12_ordered_87 ?_
    refine s_iand (pc := 88) dX12_ordered_88 ?_
    refine s_iload (pc := 89) 5 dX12_ordered_89 rfl ?_
    refine s_callS (M := MX12_ordered) (As := [.int (v1 &&& (v6 ^^^ (-1 : Int32))), .int v8]) (st := []) (Ψ := fun (x : Bool) => (some (.int (b2i x)), rH mo h s)) cs_X12_302 (by decide) (pc := 91) dX12_ordered_91 rfl (Nat.le_of_ble_eq_true rfl) (fun x hx => pX12_hasIn_ok (v1 &&& (v6 ^^^ (-1 : Int32))) v8 x hx) rfl (fun x7 _ => ?_)
    refine s_if_eqB (tgt := 116) (pc := 94) dX12_ordered_94 (by decide) (fun _ => ?_) (fun _ => ?_)
    · refine s_aload_n (pc := 97) 0 dX12_ordered_97 rfl ?_
      refine rg_51 hh (pc := 98) dX12_ordered_98 rfl ?_
      refine s_iload (pc := 101) 5 dX12_ordered_101 rfl ?_
      refine rl_9 hh (pc := 103) dX12_ordered_103 ?_
      refine s_iload (pc := 104) 3 dX12_ordered_104 rfl ?_
      refine s_iconst (v := (-1)) (pc := 106) dX12_ordered_106 (by decide) ?_
      refine s_ixor (pc := 107) dX12_ordered_107 ?_
      refine s_iand (pc := 108) dX12_ordered_108 ?_
      refine s_if_ne (tgt := 116) (pc := 109) dX12_ordered_109 (by decide) (fun _ => ?_) (fun _ => ?_)
      · refine s_iconst (v := 1) (pc := 112) dX12_ordered_112 (by decide) ?_
        refine s_goto (tgt := 117) (pc := 113) dX12_ordered_113 (by decide) ?_
        exact X12_ordered_j117_ok hh v1 v4 v6 v7 v8 v9 true s
      · exact X12_ordered_j116_ok hh v1 v4 v6 v7 v8 v9 s
    · exact X12_ordered_j116_ok hh v1 v4 v6 v7 v8 v9 s
def X12_ordered_b66 (v1 : Int32) (v4 : Int64) (v6 : Int32) (v7 : Int32) (s : RS) : Option ((Int64 × Int32 × Int32 × RS) ⊕ (Int32 × RS)) :=
  if v6 = v1 then
    some (.inr (v7, s))
  else
    (a_loop (fun (q : Int64 × Int32 × Bool) => X12_ordered_b78 v1 v6 v7 q.1 q.2.1 q.2.2 s) FU (v4, (0 : Int32), false)).bind fun (t10 : Int64 × Int32) =>
      g_in ((119 : Int32) + v7) 1800 (thn (uA s 4 (upd (s.2.2.1 4) ((119 : Int32) + v7).toNatClampNeg t10.2)) fun s11 =>
      thn (v7 + 1) fun x12 =>
      thn (v6 ||| ((1 : Int32) <<< (t10.2 &&& 31))) fun x13 =>
      some (.inl (t10.1, x13, x12, s11)))
theorem X12_ordered_b66_ok (hh : mo + 18 ≤ h.2.1) (v1 : Int32) (v4 : Int64) (v6 : Int32) (v7 : Int32) (s : RS) : aS l 3 MX12_ordered n0 S0 (a_LΦ (X12_ordered_x66 l n0 S0 mo h v1) l 3 MX12_ordered n0 S0 66 (fun (q : Int64 × Int32 × Int32 × RS) => [(0, .ref mo), (1, .int v1), (4, .long q.1), (6, .int q.2.1), (7, .int q.2.2.1)]) (fun _ => []) (fun (q : Int64 × Int32 × Int32 × RS) => rH mo h q.2.2.2)) 66 [(0, .ref mo), (1, .int v1), (4, .long v4), (6, .int v6), (7, .int v7)] [] (rH mo h s) (X12_ordered_b66 v1 v4 v6 v7 s) := by
  unfold X12_ordered_b66
  refine s_iload (pc := 66) 3 dX12_ordered_66 rfl ?_
  refine s_iload_n (pc := 68) 1 dX12_ordered_68 rfl ?_
  refine s_icmp_eq (tgt := 207) (pc := 69) dX12_ordered_69 (by decide) (fun _ => ?_) (fun _ => ?_)
  · refine s_sub [0, 4] rfl ?_
    exact s_ev (fun _ _ q => q)
  · refine s_iconst (v := 0) (pc := 72) dX12_ordered_72 (by decide) ?_
    refine s_istore (lv' := [(8, .int 0), (0, .ref mo), (1, .int v1), (4, .long v4), (6, .int v6), (7, .int v7)]) (pc := 73) dX12_ordered_73 (by decide) rfl ?_
    refine s_iconst (v := 0) (pc := 75) dX12_ordered_75 (by decide) ?_
    refine s_istore (lv' := [(9, .int 0), (8, .int 0), (0, .ref mo), (1, .int v1), (4, .long v4), (6, .int v6), (7, .int v7)]) (pc := 76) dX12_ordered_76 (by decide) rfl ?_
    refine s_bind (Ψ := X12_ordered_x78 l n0 S0 mo h v1 v6 v7 s) ?_ ?_
    · refine s_sub [2, 3, 4, 5, 6, 1, 0] rfl ?_
      exact s_loop (lvf := fun (q : Int64 × Int32 × Bool) => [(0, .ref mo), (1, .int v1), (4, .long q.1), (6, .int v6), (7, .int v7), (8, .int q.2.1), (9, .int (b2i q.2.2))]) (stf := fun _ => []) (hf := fun (q : Int64 × Int32 × Bool) => rH mo h s) (fun q => X12_ordered_b78_ok hh v1 v6 v7 q.1 q.2.1 q.2.2 s) FU (v4, (0 : Int32), false)
    · intro t10 z r h' hz hr
      refine (?_ : aS l 3 MX12_ordered n0 S0 (a_LΦ (X12_ordered_x66 l n0 S0 mo h v1) l 3 MX12_ordered n0 S0 66 (fun (q : Int64 × Int32 × Int32 × RS) => [(0, .ref mo), (1, .int v1), (4, .long q.1), (6, .int q.2.1), (7, .int q.2.2.1)]) (fun _ => []) (fun (q : Int64 × Int32 × Int32 × RS) => rH mo h q.2.2.2)) 180 [(0, .ref mo), (1, .int v1), (4, .long t10.1), (6, .int v6), (7, .int v7), (8, .int t10.2)] [] (rH mo h s) _) z hz r h' hr
      refine s_aload_n (pc := 180) 0 dX12_ordered_180 rfl ?_
      refine rg_35 hh (pc := 181) dX12_ordered_181 rfl ?_
      refine s_bipush (v := 119) (pc := 184) dX12_ordered_184 (by decide) ?_
      refine s_iload (pc := 186) 4 dX12_ordered_186 rfl ?_
      refine s_iadd (pc := 188) dX12_ordered_188 ?_
      refine s_iload (pc := 189) 5 dX12_ordered_189 rfl ?_
      refine rs_4 hh (pc := 191) dX12_ordered_191 (fun s11 => ?_)
      refine s_iincT (pc := 192) 4 (lv' := fun x12 => [(7, .int x12), (0, .ref mo), (1, .int v1), (4, .long t10.1), (6, .int v6), (8, .int t10.2)]) dX12_ordered_192 rfl rfl (by decide) (fun _ => rfl) (fun x12 => ?_)
      refine s_iload (pc := 195) 4 dX12_ordered_195 rfl ?_
      refine s_iconst (v := 1) (pc := 197) dX12_ordered_197 (by decide) ?_
      refine s_iload (pc := 198) 5 dX12_ordered_198 rfl ?_
      refine s_ishl (pc := 200) dX12_ordered_200 ?_
      refine s_ior (pc := 201) dX12_ordered_201 ?_
      refine s_istoreT (lv' := fun x13 => [(6, .int x13), (7, .int x12), (0, .ref mo), (1, .int v1), (4, .long t10.1), (8, .int t10.2)]) (pc := 202) dX12_ordered_202 (by decide) (fun _ => rfl) (fun x13 => ?_)
      refine s_goto (tgt := 66) (pc := 204) dX12_ordered_204 (by decide) ?_
      refine s_sub [2, 3, 4, 0, 1] rfl ?_
      exact s_ev (fun _ _ q => q)
def pX12_ordered (s : RS) (a0 : Int32) (a1 : Int64) : Option (Int32 × RS) :=
  thn (uI s 1 (0 : Int32)) fun s1 =>
  (pX12_whyNot s1 a0).bind fun x2 =>
  thn (uI s1 0 x2) fun s3 =>
  if (s3.1 0) ≤ 0 then
    (pX12_need s3 a0 (-1 : Int32) (-1 : Int32)).bind fun x4 =>
    (pX12_countWays x4 a0).bind fun x5 =>
    g_in (0 : Int32) 65536 (
    (pX12_isIn a1 (0 : Int64) ((x5.2.2.2 8 (0 : Int32).toNatClampNeg) - (1 : Int64))).bind fun x6 =>
    if x6 = true then
      (a_loop (fun (q : Int64 × Int32 × Int32 × RS) => X12_ordered_b66 a0 q.1 q.2.1 q.2.2.1 q.2.2.2) FU (a1, (0 : Int32), (0 : Int32), x5)).bind fun (t14 : Int32 × RS) =>
        g_in (118 : Int32) 1800 (thn (uA t14.2 4 (upd (t14.2.2.2.1 4) (118 : Int32).toNatClampNeg t14.1)) fun s15 =>
        some (t14.1, s15))
    else
      (pX12_refuse x5 (5 : Int32)).bind fun x16 =>
      some (x16.1, x16.2))
  else
    some ((-1 : Int32), s3)
theorem pX12_ordered_w (hh : mo + 18 ≤ h.2.1) (s : RS) (a0 : Int32) (a1 : Int64) : aS l 3 MX12_ordered n0 S0 (oΦ (fun (x : Int32 × RS) => (some (.int x.1), rH mo h x.2))) 0 [(0, .ref mo), (1, .int a0), (2, .long a1)] [] (rH mo h s) (pX12_ordered s a0 a1) := by
  unfold pX12_ordered
  refine s_aload_n (pc := 0) 0 dX12_ordered_0 rfl ?_
  refine s_iconst (v := 0) (pc := 1) dX12_ordered_1 (by decide) ?_
  refine rp_75 hh (pc := 2) dX12_ordered_2 rfl (fun s1 => ?_)
  refine s_aload_n (pc := 5) 0 dX12_ordered_5 rfl ?_
  refine s_aload_n (pc := 6) 0 dX12_ordered_6 rfl ?_
  refine s_iload_n (pc := 7) 1 dX12_ordered_7 rfl ?_
  refine s_callV (M := MX12_ordered) (As := [.int a0]) (st := [.ref mo]) (Ψ := fun (x : Int32) => (some (.int x), rH mo h s1)) cv_X12_349 (by decide) (pc := 8) dX12_ordered_8 r_0 (r_lt (k := 0) hh (by decide)) rfl (Nat.le_of_ble_eq_true rfl) (fun x hx => pX12_whyNot_ok hh s1 a0 x hx) rfl (fun x2 _ => ?_)
  refine rp_78 hh (pc := 11) dX12_ordered_11 rfl (fun s3 => ?_)
  refine s_aload_n (pc := 14) 0 dX12_ordered_14 rfl ?_
  refine rg_78 hh (pc := 15) dX12_ordered_15 rfl ?_
  refine s_if_le (tgt := 23) (pc := 18) dX12_ordered_18 (by decide) (fun _ => ?_) (fun _ => ?_)
  · refine s_aload_n (pc := 23) 0 dX12_ordered_23 rfl ?_
    refine s_iload_n (pc := 24) 1 dX12_ordered_24 rfl ?_
    refine s_iconst (v := (-1)) (pc := 25) dX12_ordered_25 (by decide) ?_
    refine s_iconst (v := (-1)) (pc := 26) dX12_ordered_26 (by decide) ?_
    refine s_callV (M := MX12_ordered) (As := [.int a0, .int (-1), .int (-1)]) (st := []) (Ψ := fun (x : RS) => (none, rH mo h x)) cv_X12_377 (by decide) (pc := 27) dX12_ordered_27 r_0 (r_lt (k := 0) hh (by decide)) rfl (Nat.le_of_ble_eq_true rfl) (fun x hx => pX12_need_ok hh s3 a0 (-1 : Int32) (-1 : Int32) x hx) rfl (fun x4 _ => ?_)
    refine s_aload_n (pc := 30) 0 dX12_ordered_30 rfl ?_
    refine s_iload_n (pc := 31) 1 dX12_ordered_31 rfl ?_
    refine s_callV (M := MX12_ordered) (As := [.int a0]) (st := []) (Ψ := fun (x : RS) => (none, rH mo h x)) cv_X12_381 (by decide) (pc := 32) dX12_ordered_32 r_0 (r_lt (k := 0) hh (by decide)) rfl (Nat.le_of_ble_eq_true rfl) (fun x hx => pX12_countWays_ok hh x4 a0 x hx) rfl (fun x5 _ => ?_)
    refine s_lload_n (pc := 35) 2 dX12_ordered_35 rfl ?_
    refine s_lconst (v := 0) (pc := 36) dX12_ordered_36 (by decide) ?_
    refine s_aload_n (pc := 37) 0 dX12_ordered_37 rfl ?_
    refine rg_48 hh (pc := 38) dX12_ordered_38 rfl ?_
    refine s_iconst (v := 0) (pc := 41) dX12_ordered_41 (by decide) ?_
    refine rl_8 hh (pc := 42) dX12_ordered_42 ?_
    refine s_lconst (v := 1) (pc := 43) dX12_ordered_43 (by decide) ?_
    refine s_lsub (pc := 44) dX12_ordered_44 ?_
    refine s_callS (M := MX12_ordered) (As := [.long a1, .long (0 : Int64), .long ((x5.2.2.2 8 (0 : Int32).toNatClampNeg) - (1 : Int64))]) (st := []) (Ψ := fun (x : Bool) => (some (.int (b2i x)), rH mo h x5)) cs_X12_110 (by decide) (pc := 45) dX12_ordered_45 rfl (Nat.le_of_ble_eq_true rfl) (fun x hx => pX12_isIn_ok a1 (0 : Int64) ((x5.2.2.2 8 (0 : Int32).toNatClampNeg) - (1 : Int64)) x hx) rfl (fun x6 _ => ?_)
    refine s_if_neB (tgt := 57) (pc := 48) dX12_ordered_48 (by decide) (fun _ => ?_) (fun _ => ?_)
    · refine s_lload_n (pc := 57) 2 dX12_ordered_57 rfl ?_
      refine s_lstore (lv' := [(4, .long a1), (0, .ref mo), (1, .int a0), (2, .long a1)]) (pc := 58) dX12_ordered_58 (by decide) rfl ?_
      refine s_iconst (v := 0) (pc := 60) dX12_ordered_60 (by decide) ?_
      refine s_istore (lv' := [(6, .int 0), (4, .long a1), (0, .ref mo), (1, .int a0), (2, .long a1)]) (pc := 61) dX12_ordered_61 (by decide) rfl ?_
      refine s_iconst (v := 0) (pc := 63) dX12_ordered_63 (by decide) ?_
      refine s_istore (lv' := [(7, .int 0), (6, .int 0), (4, .long a1), (0, .ref mo), (1, .int a0), (2, .long a1)]) (pc := 64) dX12_ordered_64 (by decide) rfl ?_
      refine s_bind (Ψ := X12_ordered_x66 l n0 S0 mo h a0) ?_ ?_
      · refine s_sub [3, 4, 2, 1, 0] rfl ?_
        exact s_loop (lvf := fun (q : Int64 × Int32 × Int32 × RS) => [(0, .ref mo), (1, .int a0), (4, .long q.1), (6, .int q.2.1), (7, .int q.2.2.1)]) (stf := fun _ => []) (hf := fun (q : Int64 × Int32 × Int32 × RS) => rH mo h q.2.2.2) (fun q => X12_ordered_b66_ok hh a0 q.1 q.2.1 q.2.2.1 q.2.2.2) FU (a1, (0 : Int32), (0 : Int32), x5)
      · intro t14 z r h' hz hr
        refine (?_ : aS l 3 MX12_ordered n0 S0 (oΦ (fun (x : Int32 × RS) => (some (.int x.1), rH mo h x.2))) 207 [(0, .ref mo), (7, .int t14.1)] [] (rH mo h t14.2) _) z hz r h' hr
        refine s_aload_n (pc := 207) 0 dX12_ordered_207 rfl ?_
        refine rg_35 hh (pc := 208) dX12_ordered_208 rfl ?_
        refine s_bipush (v := 118) (pc := 211) dX12_ordered_211 (by decide) ?_
        refine s_iload (pc := 213) 1 dX12_ordered_213 rfl ?_
        refine rs_4 hh (pc := 215) dX12_ordered_215 (fun s15 => ?_)
        refine s_iload (pc := 216) 1 dX12_ordered_216 rfl ?_
        exact s_iret (pc := 218) dX12_ordered_218 rfl (fun _ _ q => q)
    · refine s_aload_n (pc := 51) 0 dX12_ordered_51 rfl ?_
      refine s_iconst (v := 5) (pc := 52) dX12_ordered_52 (by decide) ?_
      refine s_callV (M := MX12_ordered) (As := [.int 5]) (st := []) (Ψ := fun (x : Int32 × RS) => (some (.int x.1), rH mo h x.2)) cv_X12_299 (by decide) (pc := 53) dX12_ordered_53 r_0 (r_lt (k := 0) hh (by decide)) rfl (Nat.le_of_ble_eq_true rfl) (fun x hx => pX12_refuse_ok hh x5 (5 : Int32) x hx) rfl (fun x16 _ => ?_)
      exact s_iret (pc := 56) dX12_ordered_56 rfl (fun _ _ q => q)
  · refine s_iconst (v := (-1)) (pc := 21) dX12_ordered_21 (by decide) ?_
    exact s_iret (pc := 22) dX12_ordered_22 rfl (fun _ _ q => q)
theorem pX12_ordered_ok (hh : mo + 18 ≤ h.2.1) (s : RS) (a0 : Int32) (a1 : Int64) : ∀ x, pX12_ordered s a0 a1 = some x → aMet l 3 yX12_ordered cX12_ordered 11 (some .int) [.ref mo, .int a0, .long a1] (rH mo h s) (some (.int x.1)) (rH mo h x.2) := fun x hx => a_meth (ini := false) (y := yX12_ordered) (by decide +kernel) (fun q => by cases q) (fun _ => Nat.le_of_ble_eq_true rfl) (pX12_ordered_w hh s a0 a1) x hx _ _ ⟨rfl, rfl⟩
end
section
variable {l : Launch} {n0 S0 : Nat} {mo : Nat} {h : aH}
abbrev MX12_orderSet : aM := (cX12_orderSet, RX12, 3, (some .int), false)
def X12_orderSet_x4 (l : Launch) (n0 S0 : Nat) (mo : Nat) (h : aH) (s : RS) : Int32 → Option Value → aH → Prop := fun (x : Int32) r h' => aEv l 0 MX12_orderSet n0 S0 35 [(1, .int x)] [] (rH mo h s) r h'
def X12_orderSet_b4 (v1 : Int32) (v2 : Int32) (s : RS) : Option ((Int32 × Int32) ⊕ Int32) :=
  g_in (118 : Int32) 1800 (
  if (s.2.2.1 4 (118 : Int32).toNatClampNeg) ≤ v2 then
    some (.inr v1)
  else
    g_in ((119 : Int32) + v2) 1800 (
    thn (v1 ||| ((1 : Int32) <<< ((s.2.2.1 4 ((119 : Int32) + v2).toNatClampNeg) &&& 31))) fun x1 =>
    thn (v2 + 1) fun x2 =>
    some (.inl (x1, x2))))
theorem X12_orderSet_b4_ok (hh : mo + 18 ≤ h.2.1) (v1 : Int32) (v2 : Int32) (s : RS) : aS l 0 MX12_orderSet n0 S0 (a_LΦ (X12_orderSet_x4 l n0 S0 mo h s) l 0 MX12_orderSet n0 S0 4 (fun (q : Int32 × Int32) => [(0, .ref mo), (1, .int q.1), (2, .int q.2)]) (fun _ => []) (fun (q : Int32 × Int32) => rH mo h s)) 4 [(0, .ref mo), (1, .int v1), (2, .int v2)] [] (rH mo h s) (X12_orderSet_b4 v1 v2 s) := by
  unfold X12_orderSet_b4
  refine s_iload_n (pc := 4) 2 dX12_orderSet_4 rfl ?_
  refine s_aload_n (pc := 5) 0 dX12_orderSet_5 rfl ?_
  refine rg_35 hh (pc := 6) dX12_orderSet_6 rfl ?_
  refine s_bipush (v := 118) (pc := 9) dX12_orderSet_9 (by decide) ?_
  refine rl_4 hh (pc := 11) dX12_orderSet_11 ?_
  refine s_icmp_ge (tgt := 35) (pc := 12) dX12_orderSet_12 (by decide) (fun _ => ?_) (fun _ => ?_)
  · refine s_sub [1] rfl ?_
    exact s_ev (fun _ _ q => q)
  · refine s_iload_n (pc := 15) 1 dX12_orderSet_15 rfl ?_
    refine s_iconst (v := 1) (pc := 16) dX12_orderSet_16 (by decide) ?_
    refine s_aload_n (pc := 17) 0 dX12_orderSet_17 rfl ?_
    refine rg_35 hh (pc := 18) dX12_orderSet_18 rfl ?_
    refine s_bipush (v := 119) (pc := 21) dX12_orderSet_21 (by decide) ?_
    refine s_iload_n (pc := 23) 2 dX12_orderSet_23 rfl ?_
    refine s_iadd (pc := 24) dX12_orderSet_24 ?_
    refine rl_4 hh (pc := 25) dX12_orderSet_25 ?_
    refine s_ishl (pc := 26) dX12_orderSet_26 ?_
    refine s_ior (pc := 27) dX12_orderSet_27 ?_
    refine s_istore_nT (lv' := fun x1 => [(1, .int x1), (0, .ref mo), (2, .int v2)]) (pc := 28) dX12_orderSet_28 (by decide) (fun _ => rfl) (fun x1 => ?_)
    refine s_iincT (pc := 29) 2 (lv' := fun x2 => [(2, .int x2), (1, .int x1), (0, .ref mo)]) dX12_orderSet_29 rfl rfl (by decide) (fun _ => rfl) (fun x2 => ?_)
    refine s_goto (tgt := 4) (pc := 32) dX12_orderSet_32 (by decide) ?_
    refine s_sub [2, 1, 0] rfl ?_
    exact s_ev (fun _ _ q => q)
def pX12_orderSet (s : RS) : Option Int32 :=
  (a_loop (fun (q : Int32 × Int32) => X12_orderSet_b4 q.1 q.2 s) FU ((0 : Int32), (0 : Int32))).bind fun (t3 : Int32) =>
    some t3
theorem pX12_orderSet_w (hh : mo + 18 ≤ h.2.1) (s : RS) : aS l 0 MX12_orderSet n0 S0 (oΦ (fun (x : Int32) => (some (.int x), rH mo h s))) 0 [(0, .ref mo)] [] (rH mo h s) (pX12_orderSet s) := by
  unfold pX12_orderSet
  refine s_iconst (v := 0) (pc := 0) dX12_orderSet_0 (by decide) ?_
  refine s_istore_n (lv' := [(1, .int 0), (0, .ref mo)]) (pc := 1) dX12_orderSet_1 (by decide) rfl ?_
  refine s_iconst (v := 0) (pc := 2) dX12_orderSet_2 (by decide) ?_
  refine s_istore_n (lv' := [(2, .int 0), (1, .int 0), (0, .ref mo)]) (pc := 3) dX12_orderSet_3 (by decide) rfl ?_
  refine s_bind (Ψ := X12_orderSet_x4 l n0 S0 mo h s) ?_ ?_
  · refine s_sub [2, 1, 0] rfl ?_
    exact s_loop (lvf := fun (q : Int32 × Int32) => [(0, .ref mo), (1, .int q.1), (2, .int q.2)]) (stf := fun _ => []) (hf := fun (q : Int32 × Int32) => rH mo h s) (fun q => X12_orderSet_b4_ok hh q.1 q.2 s) FU ((0 : Int32), (0 : Int32))
  · intro t3 z r h' hz hr
    refine (?_ : aS l 0 MX12_orderSet n0 S0 (oΦ (fun (x : Int32) => (some (.int x), rH mo h s))) 35 [(1, .int t3)] [] (rH mo h s) _) z hz r h' hr
    refine s_iload_n (pc := 35) 0 dX12_orderSet_35 rfl ?_
    exact s_iret (pc := 36) dX12_orderSet_36 rfl (fun _ _ q => q)
theorem pX12_orderSet_ok (hh : mo + 18 ≤ h.2.1) (s : RS) : ∀ x, pX12_orderSet s = some x → aMet l 0 yX12_orderSet cX12_orderSet 3 (some .int) [.ref mo] (rH mo h s) (some (.int x)) (rH mo h s) := fun x hx => a_meth (ini := false) (y := yX12_orderSet) (by decide +kernel) (fun q => by cases q) (fun _ => Nat.le_of_ble_eq_true rfl) (pX12_orderSet_w hh s) x hx _ _ ⟨rfl, rfl⟩
end
section
variable {l : Launch} {n0 S0 : Nat} {mo : Nat} {h : aH}
abbrev MX12_order : aM := (cX12_order, RX12, 7, (some .boolean), false)
def X12_order_x78 (l : Launch) (n0 S0 : Nat) (mo : Nat) (h : aH) (v1 : Int32) (v2 : Int32) (s : RS) : (Unit ⊕ Unit) → Option Value → aH → Prop := Sum.elim (fun (x : Unit) (r : Option Value) (h' : aH) => aEv l 2 MX12_order n0 S0 122 [(0, .ref mo)] [] (rH mo h s) r h') (fun (x : Unit) (r : Option Value) (h' : aH) => aEv l 2 MX12_order n0 S0 147 [(0, .ref mo), (1, .int v1), (2, .int v2)] [] (rH mo h s) r h')
def X12_order_b78 (v1 : Int32) (v2 : Int32) (v3 : Int32) (v4 : Int32) (s : RS) : Option ((Int32 × Int32) ⊕ (Unit ⊕ Unit)) :=
  if v2 ≤ v4 then
    some (.inr (.inr ()))
  else
    (pX12_numberOf s v1 v4).bind fun x5 =>
    g_in (0 : Int32) 1800 (
    (pX12_isIn x5 (0 : Int64) (((s.2.2.1 4 (0 : Int32).toNatClampNeg) - (1 : Int32)).toInt64)).bind fun x6 =>
    if x6 = true then
      (pX12_numberOf s v1 v4).bind fun x7 =>
      (pX12_hasIn v3 x7.toInt32).bind fun x8 =>
      if x8 = true then
        some (.inr (.inl ()))
      else
        (pX12_numberOf s v1 v4).bind fun x9 =>
        thn (v3 ||| ((1 : Int32) <<< (x9.toInt32 &&& 31))) fun x10 =>
        thn (v4 + 1) fun x11 =>
        some (.inl (x10, x11))
    else
      some (.inr (.inl ())))
theorem X12_order_b78_ok (hh : mo + 18 ≤ h.2.1) (v1 : Int32) (v2 : Int32) (v3 : Int32) (v4 : Int32) (s : RS) : aS l 2 MX12_order n0 S0 (a_LΦ (X12_order_x78 l n0 S0 mo h v1 v2 s) l 2 MX12_order n0 S0 78 (fun (q : Int32 × Int32) => [(0, .ref mo), (1, .int v1), (2, .int v2), (3, .int q.1), (4, .int q.2)]) (fun _ => []) (fun (q : Int32 × Int32) => rH mo h s)) 78 [(0, .ref mo), (1, .int v1), (2, .int v2), (3, .int v3), (4, .int v4)] [] (rH mo h s) (X12_order_b78 v1 v2 v3 v4 s) := by
  unfold X12_order_b78
  refine s_iload (pc := 78) 4 dX12_order_78 rfl ?_
  refine s_iload_n (pc := 80) 2 dX12_order_80 rfl ?_
  refine s_icmp_ge (tgt := 147) (pc := 81) dX12_order_81 (by decide) (fun _ => ?_) (fun _ => ?_)
  · refine s_sub [0, 1, 2] rfl ?_
    exact s_ev (fun _ _ q => q)
  · refine s_aload_n (pc := 84) 0 dX12_order_84 rfl ?_
    refine s_iload_n (pc := 85) 1 dX12_order_85 rfl ?_
    refine s_iload (pc := 86) 4 dX12_order_86 rfl ?_
    refine s_callV (M := MX12_order) (As := [.int v1, .int v4]) (st := []) (Ψ := fun (x : Int64) => (some (.long x), rH mo h s)) cv_X12_393 (by decide) (pc := 88) dX12_order_88 r_0 (r_lt (k := 0) hh (by decide)) rfl (Nat.le_of_ble_eq_true rfl) (fun x hx => pX12_numberOf_ok hh s v1 v4 x hx) rfl (fun x5 _ => ?_)
    refine s_lconst (v := 0) (pc := 91) dX12_order_91 (by decide) ?_
    refine s_aload_n (pc := 92) 0 dX12_order_92 rfl ?_
    refine rg_35 hh (pc := 93) dX12_order_93 rfl ?_
    refine s_iconst (v := 0) (pc := 96) dX12_order_96 (by decide) ?_
    refine rl_4 hh (pc := 97) dX12_order_97 ?_
    refine s_iconst (v := 1) (pc := 98) dX12_order_98 (by decide) ?_
    refine s_isub (pc := 99) dX12_order_99 ?_
    refine s_i2l (pc := 100) dX12_order_100 ?_
    refine s_callS (M := MX12_order) (As := [.long x5, .long (0 : Int64), .long ((s.2.2.1 4 (0 : Int32).toNatClampNeg) - (1 : Int32)).toInt64]) (st := []) (Ψ := fun (x : Bool) => (some (.int (b2i x)), rH mo h s)) cs_X12_110 (by decide) (pc := 101) dX12_order_101 rfl (Nat.le_of_ble_eq_true rfl) (fun x hx => pX12_isIn_ok x5 (0 : Int64) (((s.2.2.1 4 (0 : Int32).toNatClampNeg) - (1 : Int32)).toInt64) x hx) rfl (fun x6 _ => ?_)
    refine s_if_eqB (tgt := 122) (pc := 104) dX12_order_104 (by decide) (fun _ => ?_) (fun _ => ?_)
    · refine s_iload_n (pc := 107) 3 dX12_order_107 rfl ?_
      refine s_aload_n (pc := 108) 0 dX12_order_108 rfl ?_
      refine s_iload_n (pc := 109) 1 dX12_order_109 rfl ?_
      refine s_iload (pc := 110) 4 dX12_order_110 rfl ?_
      refine s_callV (M := MX12_order) (As := [.int v1, .int v4]) (st := [.int v3]) (Ψ := fun (x : Int64) => (some (.long x), rH mo h s)) cv_X12_393 (by decide) (pc := 112) dX12_order_112 r_0 (r_lt (k := 0) hh (by decide)) rfl (Nat.le_of_ble_eq_true rfl) (fun x hx => pX12_numberOf_ok hh s v1 v4 x hx) rfl (fun x7 _ => ?_)
      refine s_l2i (pc := 115) dX12_order_115 ?_
      refine s_callS (M := MX12_order) (As := [.int v3, .int x7.toInt32]) (st := []) (Ψ := fun (x : Bool) => (some (.int (b2i x)), rH mo h s)) cs_X12_302 (by decide) (pc := 116) dX12_order_116 rfl (Nat.le_of_ble_eq_true rfl) (fun x hx => pX12_hasIn_ok v3 x7.toInt32 x hx) rfl (fun x8 _ => ?_)
      refine s_if_eqB (tgt := 128) (pc := 119) dX12_order_119 (by decide) (fun _ => ?_) (fun _ => ?_)
      · refine s_sub [0] rfl ?_
        exact s_ev (fun _ _ q => q)
      · refine s_iload_n (pc := 128) 3 dX12_order_128 rfl ?_
        refine s_iconst (v := 1) (pc := 129) dX12_order_129 (by decide) ?_
        refine s_aload_n (pc := 130) 0 dX12_order_130 rfl ?_
        refine s_iload_n (pc := 131) 1 dX12_order_131 rfl ?_
        refine s_iload (pc := 132) 4 dX12_order_132 rfl ?_
        refine s_callV (M := MX12_order) (As := [.int v1, .int v4]) (st := [.int 1, .int v3]) (Ψ := fun (x : Int64) => (some (.long x), rH mo h s)) cv_X12_393 (by decide) (pc := 134) dX12_order_134 r_0 (r_lt (k := 0) hh (by decide)) rfl (Nat.le_of_ble_eq_true rfl) (fun x hx => pX12_numberOf_ok hh s v1 v4 x hx) rfl (fun x9 _ => ?_)
        refine s_l2i (pc := 137) dX12_order_137 ?_
        refine s_ishl (pc := 138) dX12_order_138 ?_
        refine s_ior (pc := 139) dX12_order_139 ?_
        refine s_istore_nT (lv' := fun x10 => [(3, .int x10), (0, .ref mo), (1, .int v1), (2, .int v2), (4, .int v4)]) (pc := 140) dX12_order_140 (by decide) (fun _ => rfl) (fun x10 => ?_)
        refine s_iincT (pc := 141) 4 (lv' := fun x11 => [(4, .int x11), (3, .int x10), (0, .ref mo), (1, .int v1), (2, .int v2)]) dX12_order_141 rfl rfl (by decide) (fun _ => rfl) (fun x11 => ?_)
        refine s_goto (tgt := 78) (pc := 144) dX12_order_144 (by decide) ?_
        refine s_sub [2, 3, 4, 1, 0] rfl ?_
        exact s_ev (fun _ _ q => q)
    · refine s_sub [0] rfl ?_
      exact s_ev (fun _ _ q => q)
def X12_order_j122 (s : RS) : Option (Bool × RS) :=
  (pX12_no s (5 : Int32)).bind fun x13 =>
  some (x13.1, x13.2)
theorem X12_order_j122_ok (hh : mo + 18 ≤ h.2.1) (s : RS) : aS l 2 MX12_order n0 S0 (oΦ (fun (x : Bool × RS) => (some (.int (b2i x.1)), rH mo h x.2))) 122 [(0, .ref mo)] [] (rH mo h s) (X12_order_j122 s) := by
  unfold X12_order_j122
  refine s_aload_n (pc := 122) 0 dX12_order_122 rfl ?_
  refine s_iconst (v := 5) (pc := 123) dX12_order_123 (by decide) ?_
  refine s_callV (M := MX12_order) (As := [.int 5]) (st := []) (Ψ := fun (x : Bool × RS) => (some (.int (b2i x.1)), rH mo h x.2)) cv_X12_90 (by decide) (pc := 124) dX12_order_124 r_0 (r_lt (k := 0) hh (by decide)) rfl (Nat.le_of_ble_eq_true rfl) (fun x hx => pX12_no_ok hh s (5 : Int32) x hx) rfl (fun x13 _ => ?_)
  exact s_zretB (b := x13.1) (pc := 127) dX12_order_127 rfl (fun _ _ q => q)
def X12_order_x153 (l : Launch) (n0 S0 : Nat) (mo : Nat) (h : aH) (v1 : Int32) (v2 : Int32) (s : RS) : (Unit ⊕ Unit) → Option Value → aH → Prop := Sum.elim (fun (x : Unit) (r : Option Value) (h' : aH) => aEv l 2 MX12_order n0 S0 184 [(0, .ref mo)] [] (rH mo h s) r h') (fun (x : Unit) (r : Option Value) (h' : aH) => aEv l 2 MX12_order n0 S0 206 [(0, .ref mo), (1, .int v1), (2, .int v2)] [] (rH mo h s) r h')
def X12_order_b153 (v1 : Int32) (v2 : Int32) (v4 : Int32) (v5 : Int32) (s : RS) : Option ((Int32 × Int32) ⊕ (Unit ⊕ Unit)) :=
  if v2 ≤ v5 then
    some (.inr (.inr ()))
  else
    (pX12_numberOf s v1 v5).bind fun x15 =>
    (pX12_hangsOn s (0 : Int32) x15.toInt32).bind fun x16 =>
    if (x16 &&& (v4 ^^^ (-1 : Int32))) = 0 then
      thn (v4 ||| ((1 : Int32) <<< (x15.toInt32 &&& 31))) fun x17 =>
      thn (v5 + 1) fun x18 =>
      some (.inl (x17, x18))
    else
      some (.inr (.inl ()))
theorem X12_order_b153_ok (hh : mo + 18 ≤ h.2.1) (v1 : Int32) (v2 : Int32) (v4 : Int32) (v5 : Int32) (s : RS) : aS l 2 MX12_order n0 S0 (a_LΦ (X12_order_x153 l n0 S0 mo h v1 v2 s) l 2 MX12_order n0 S0 153 (fun (q : Int32 × Int32) => [(0, .ref mo), (1, .int v1), (2, .int v2), (4, .int q.1), (5, .int q.2)]) (fun _ => []) (fun (q : Int32 × Int32) => rH mo h s)) 153 [(0, .ref mo), (1, .int v1), (2, .int v2), (4, .int v4), (5, .int v5)] [] (rH mo h s) (X12_order_b153 v1 v2 v4 v5 s) := by
  unfold X12_order_b153
  refine s_iload (pc := 153) 4 dX12_order_153 rfl ?_
  refine s_iload_n (pc := 155) 2 dX12_order_155 rfl ?_
  refine s_icmp_ge (tgt := 206) (pc := 156) dX12_order_156 (by decide) (fun _ => ?_) (fun _ => ?_)
  · refine s_sub [0, 1, 2] rfl ?_
    exact s_ev (fun _ _ q => q)
  · refine s_aload_n (pc := 159) 0 dX12_order_159 rfl ?_
    refine s_iload_n (pc := 160) 1 dX12_order_160 rfl ?_
    refine s_iload (pc := 161) 4 dX12_order_161 rfl ?_
    refine s_callV (M := MX12_order) (As := [.int v1, .int v5]) (st := []) (Ψ := fun (x : Int64) => (some (.long x), rH mo h s)) cv_X12_393 (by decide) (pc := 163) dX12_order_163 r_0 (r_lt (k := 0) hh (by decide)) rfl (Nat.le_of_ble_eq_true rfl) (fun x hx => pX12_numberOf_ok hh s v1 v5 x hx) rfl (fun x15 _ => ?_)
    refine s_l2i (pc := 166) dX12_order_166 ?_
    refine s_istore (lv' := [(6, .int x15.toInt32), (0, .ref mo), (1, .int v1), (2, .int v2), (4, .int v4), (5, .int v5)]) (pc := 167) dX12_order_167 (by decide) rfl ?_
    refine s_aload_n (pc := 169) 1 dX12_order_169 rfl ?_
    refine s_iconst (v := 0) (pc := 170) dX12_order_170 (by decide) ?_
    refine s_iload (pc := 171) 0 dX12_order_171 rfl ?_
    refine s_callV (M := MX12_order) (As := [.int 0, .int x15.toInt32]) (st := []) (Ψ := fun (x : Int32) => (some (.int x), rH mo h s)) cv_X12_249 (by decide) (pc := 173) dX12_order_173 r_0 (r_lt (k := 0) hh (by decide)) rfl (Nat.le_of_ble_eq_true rfl) (fun x hx => pX12_hangsOn_ok hh s (0 : Int32) x15.toInt32 x hx) rfl (fun x16 _ => ?_)
    refine s_iload (pc := 176) 4 dX12_order_176 rfl ?_
    refine s_iconst (v := (-1)) (pc := 178) dX12_order_178 (by decide) ?_
    refine s_ixor (pc := 179) dX12_order_179 ?_
    refine s_iand (pc := 180) dX12_order_180 ?_
    refine s_if_eq (tgt := 191) (pc := 181) dX12_order_181 (by decide) (fun _ => ?_) (fun _ => ?_)
    · refine s_iload (pc := 191) 4 dX12_order_191 rfl ?_
      refine s_iconst (v := 1) (pc := 193) dX12_order_193 (by decide) ?_
      refine s_iload (pc := 194) 0 dX12_order_194 rfl ?_
      refine s_ishl (pc := 196) dX12_order_196 ?_
      refine s_ior (pc := 197) dX12_order_197 ?_
      refine s_istoreT (lv' := fun x17 => [(4, .int x17), (6, .int x15.toInt32), (0, .ref mo), (1, .int v1), (2, .int v2), (5, .int v5)]) (pc := 198) dX12_order_198 (by decide) (fun _ => rfl) (fun x17 => ?_)
      refine s_iincT (pc := 200) 5 (lv' := fun x18 => [(5, .int x18), (4, .int x17), (6, .int x15.toInt32), (0, .ref mo), (1, .int v1), (2, .int v2)]) dX12_order_200 rfl rfl (by decide) (fun _ => rfl) (fun x18 => ?_)
      refine s_goto (tgt := 153) (pc := 203) dX12_order_203 (by decide) ?_
      refine s_sub [3, 4, 5, 1, 0] rfl ?_
      exact s_ev (fun _ _ q => q)
    · refine s_sub [1] rfl ?_
      exact s_ev (fun _ _ q => q)
def X12_order_x209 (l : Launch) (n0 S0 : Nat) (mo : Nat) (h : aH) (v1 : Int32) (v2 : Int32) : RS → Option Value → aH → Prop := fun (x : RS) r h' => aEv l 2 MX12_order n0 S0 239 [(0, .ref mo), (2, .int v2)] [] (rH mo h x) r h'
def X12_order_b209 (v1 : Int32) (v2 : Int32) (v5 : Int32) (s : RS) : Option ((Int32 × RS) ⊕ RS) :=
  if v2 ≤ v5 then
    some (.inr s)
  else
    (pX12_numberOf s v1 v5).bind fun x22 =>
    g_in ((119 : Int32) + v5) 1800 (thn (uA s 4 (upd (s.2.2.1 4) ((119 : Int32) + v5).toNatClampNeg x22.toInt32)) fun s23 =>
    thn (v5 + 1) fun x24 =>
    some (.inl (x24, s23)))
theorem X12_order_b209_ok (hh : mo + 18 ≤ h.2.1) (v1 : Int32) (v2 : Int32) (v5 : Int32) (s : RS) : aS l 2 MX12_order n0 S0 (a_LΦ (X12_order_x209 l n0 S0 mo h v1 v2) l 2 MX12_order n0 S0 209 (fun (q : Int32 × RS) => [(0, .ref mo), (1, .int v1), (2, .int v2), (5, .int q.1)]) (fun _ => []) (fun (q : Int32 × RS) => rH mo h q.2)) 209 [(0, .ref mo), (1, .int v1), (2, .int v2), (5, .int v5)] [] (rH mo h s) (X12_order_b209 v1 v2 v5 s) := by
  unfold X12_order_b209
  refine s_iload (pc := 209) 3 dX12_order_209 rfl ?_
  refine s_iload_n (pc := 211) 2 dX12_order_211 rfl ?_
  refine s_icmp_ge (tgt := 239) (pc := 212) dX12_order_212 (by decide) (fun _ => ?_) (fun _ => ?_)
  · refine s_sub [0, 2] rfl ?_
    exact s_ev (fun _ _ q => q)
  · refine s_aload_n (pc := 215) 0 dX12_order_215 rfl ?_
    refine rg_35 hh (pc := 216) dX12_order_216 rfl ?_
    refine s_bipush (v := 119) (pc := 219) dX12_order_219 (by decide) ?_
    refine s_iload (pc := 221) 3 dX12_order_221 rfl ?_
    refine s_iadd (pc := 223) dX12_order_223 ?_
    refine s_aload_n (pc := 224) 0 dX12_order_224 rfl ?_
    refine s_iload_n (pc := 225) 1 dX12_order_225 rfl ?_
    refine s_iload (pc := 226) 3 dX12_order_226 rfl ?_
    refine s_callV (M := MX12_order) (As := [.int v1, .int v5]) (st := [.int ((119 : Int32) + v5), .ref (mo + 5)]) (Ψ := fun (x : Int64) => (some (.long x), rH mo h s)) cv_X12_393 (by decide) (pc := 228) dX12_order_228 r_0 (r_lt (k := 0) hh (by decide)) rfl (Nat.le_of_ble_eq_true rfl) (fun x hx => pX12_numberOf_ok hh s v1 v5 x hx) rfl (fun x22 _ => ?_)
    refine s_l2i (pc := 231) dX12_order_231 ?_
    refine rs_4 hh (pc := 232) dX12_order_232 (fun s23 => ?_)
    refine s_iincT (pc := 233) 3 (lv' := fun x24 => [(5, .int x24), (0, .ref mo), (1, .int v1), (2, .int v2)]) dX12_order_233 rfl rfl (by decide) (fun _ => rfl) (fun x24 => ?_)
    refine s_goto (tgt := 209) (pc := 236) dX12_order_236 (by decide) ?_
    refine s_sub [1, 2, 3, 0] rfl ?_
    exact s_ev (fun _ _ q => q)
def pX12_order (s : RS) (a0 : Int32) (a1 : Int32) : Option (Bool × RS) :=
  thn (uI s 1 (0 : Int32)) fun s1 =>
  thn (uI s1 0 (0 : Int32)) fun s2 =>
  (pX12_isTray s2 a0).bind fun x3 =>
  if x3 = true then
    g_in a0 4 (
    if 0 ≤ (s2.2.2.1 1 a0.toNatClampNeg) then
      (pX12_isIn a1.toInt64 (0 : Int64) (16 : Int64)).bind fun x4 =>
      if x4 = true then
        g_in a0 4 (
        if a1 ≤ (s2.2.2.1 1 a0.toNatClampNeg) then
          (a_loop (fun (q : Int32 × Int32) => X12_order_b78 a0 a1 q.1 q.2 s2) FU ((0 : Int32), (0 : Int32))).bind (Sum.elim (fun (t12 : Unit) =>
              X12_order_j122 s2)
            (fun (t14 : Unit) =>
              (a_loop (fun (q : Int32 × Int32) => X12_order_b153 a0 a1 q.1 q.2 s2) FU ((0 : Int32), (0 : Int32))).bind (Sum.elim (fun (t19 : Unit) =>
                  (pX12_no s2 (9 : Int32)).bind fun x20 =>
                  some (x20.1, x20.2))
                (fun (t21 : Unit) =>
                  (a_loop (fun (q : Int32 × RS) => X12_order_b209 a0 a1 q.1 q.2) FU ((0 : Int32), s2)).bind fun (t25 : RS) =>
                    g_in (118 : Int32) 1800 (thn (uA t25 4 (upd (t25.2.2.1 4) (118 : Int32).toNatClampNeg a1)) fun s26 =>
                    some (true, s26))))))
        else
          (pX12_no s2 (4 : Int32)).bind fun x27 =>
          some (x27.1, x27.2))
      else
        (pX12_no s2 (5 : Int32)).bind fun x28 =>
        some (x28.1, x28.2)
    else
      (pX12_no s2 (3 : Int32)).bind fun x29 =>
      some (x29.1, x29.2))
  else
    (pX12_no s2 (1 : Int32)).bind fun x30 =>
    some (x30.1, x30.2)
theorem pX12_order_w (hh : mo + 18 ≤ h.2.1) (s : RS) (a0 : Int32) (a1 : Int32) : aS l 2 MX12_order n0 S0 (oΦ (fun (x : Bool × RS) => (some (.int (b2i x.1)), rH mo h x.2))) 0 [(0, .ref mo), (1, .int a0), (2, .int a1)] [] (rH mo h s) (pX12_order s a0 a1) := by
  unfold pX12_order
  refine s_aload_n (pc := 0) 0 dX12_order_0 rfl ?_
  refine s_iconst (v := 0) (pc := 1) dX12_order_1 (by decide) ?_
  refine rp_75 hh (pc := 2) dX12_order_2 rfl (fun s1 => ?_)
  refine s_aload_n (pc := 5) 0 dX12_order_5 rfl ?_
  refine s_iconst (v := 0) (pc := 6) dX12_order_6 (by decide) ?_
  refine rp_78 hh (pc := 7) dX12_order_7 rfl (fun s2 => ?_)
  refine s_aload_n (pc := 10) 0 dX12_order_10 rfl ?_
  refine s_iload_n (pc := 11) 1 dX12_order_11 rfl ?_
  refine s_callV (M := MX12_order) (As := [.int a0]) (st := []) (Ψ := fun (x : Bool) => (some (.int (b2i x)), rH mo h s2)) cv_X12_388 (by decide) (pc := 12) dX12_order_12 r_0 (r_lt (k := 0) hh (by decide)) rfl (Nat.le_of_ble_eq_true rfl) (fun x hx => pX12_isTray_ok hh s2 a0 x hx) rfl (fun x3 _ => ?_)
  refine s_if_neB (tgt := 24) (pc := 15) dX12_order_15 (by decide) (fun _ => ?_) (fun _ => ?_)
  · refine s_aload_n (pc := 24) 0 dX12_order_24 rfl ?_
    refine rg_17 hh (pc := 25) dX12_order_25 rfl ?_
    refine s_iload_n (pc := 28) 1 dX12_order_28 rfl ?_
    refine rl_1 hh (pc := 29) dX12_order_29 ?_
    refine s_if_ge (tgt := 39) (pc := 30) dX12_order_30 (by decide) (fun _ => ?_) (fun _ => ?_)
    · refine s_iload_n (pc := 39) 2 dX12_order_39 rfl ?_
      refine s_i2l (pc := 40) dX12_order_40 ?_
      refine s_lconst (v := 0) (pc := 41) dX12_order_41 (by decide) ?_
      refine s_ldc2 (v := 16) (pc := 42) dX12_order_42 wk_X12_391 ?_
      refine s_callS (M := MX12_order) (As := [.long a1.toInt64, .long (0 : Int64), .long (16 : Int64)]) (st := []) (Ψ := fun (x : Bool) => (some (.int (b2i x)), rH mo h s2)) cs_X12_110 (by decide) (pc := 45) dX12_order_45 rfl (Nat.le_of_ble_eq_true rfl) (fun x hx => pX12_isIn_ok a1.toInt64 (0 : Int64) (16 : Int64) x hx) rfl (fun x4 _ => ?_)
      refine s_if_neB (tgt := 57) (pc := 48) dX12_order_48 (by decide) (fun _ => ?_) (fun _ => ?_)
      · refine s_aload_n (pc := 57) 0 dX12_order_57 rfl ?_
        refine rg_17 hh (pc := 58) dX12_order_58 rfl ?_
        refine s_iload_n (pc := 61) 1 dX12_order_61 rfl ?_
        refine rl_1 hh (pc := 62) dX12_order_62 ?_
        refine s_iload_n (pc := 63) 2 dX12_order_63 rfl ?_
        refine s_icmp_ge (tgt := 73) (pc := 64) dX12_order_64 (by decide) (fun _ => ?_) (fun _ => ?_)
        · refine s_iconst (v := 0) (pc := 73) dX12_order_73 (by decide) ?_
          refine s_istore_n (lv' := [(3, .int 0), (0, .ref mo), (1, .int a0), (2, .int a1)]) (pc := 74) dX12_order_74 (by decide) rfl ?_
          refine s_iconst (v := 0) (pc := 75) dX12_order_75 (by decide) ?_
          refine s_istore (lv' := [(4, .int 0), (3, .int 0), (0, .ref mo), (1, .int a0), (2, .int a1)]) (pc := 76) dX12_order_76 (by decide) rfl ?_
          refine s_bind (Ψ := X12_order_x78 l n0 S0 mo h a0 a1 s2) ?_ ?_
          · refine s_sub [2, 3, 4, 1, 0] rfl ?_
            exact s_loop (lvf := fun (q : Int32 × Int32) => [(0, .ref mo), (1, .int a0), (2, .int a1), (3, .int q.1), (4, .int q.2)]) (stf := fun _ => []) (hf := fun (q : Int32 × Int32) => rH mo h s2) (fun q => X12_order_b78_ok hh a0 a1 q.1 q.2 s2) FU ((0 : Int32), (0 : Int32))
          · intro x z r h' hz hr
            rcases x with t12 | t14
            · refine (?_ : aS l 2 MX12_order n0 S0 (oΦ (fun (x : Bool × RS) => (some (.int (b2i x.1)), rH mo h x.2))) 122 [(0, .ref mo)] [] (rH mo h s2) _) z (show _ = some z from hz) r h' hr
              exact X12_order_j122_ok hh s2
            · refine (?_ : aS l 2 MX12_order n0 S0 (oΦ (fun (x : Bool × RS) => (some (.int (b2i x.1)), rH mo h x.2))) 147 [(0, .ref mo), (1, .int a0), (2, .int a1)] [] (rH mo h s2) _) z (show _ = some z from hz) r h' hr
              refine s_iconst (v := 0) (pc := 147) dX12_order_147 (by decide) ?_
              refine s_istore (lv' := [(4, .int 0), (0, .ref mo), (1, .int a0), (2, .int a1)]) (pc := 148) dX12_order_148 (by decide) rfl ?_
              refine s_iconst (v := 0) (pc := 150) dX12_order_150 (by decide) ?_
              refine s_istore (lv' := [(5, .int 0), (4, .int 0), (0, .ref mo), (1, .int a0), (2, .int a1)]) (pc := 151) dX12_order_151 (by decide) rfl ?_
              refine s_bind (Ψ := X12_order_x153 l n0 S0 mo h a0 a1 s2) ?_ ?_
              · refine s_sub [2, 3, 4, 1, 0] rfl ?_
                exact s_loop (lvf := fun (q : Int32 × Int32) => [(0, .ref mo), (1, .int a0), (2, .int a1), (4, .int q.1), (5, .int q.2)]) (stf := fun _ => []) (hf := fun (q : Int32 × Int32) => rH mo h s2) (fun q => X12_order_b153_ok hh a0 a1 q.1 q.2 s2) FU ((0 : Int32), (0 : Int32))
              · intro x z r h' hz hr
                rcases x with t19 | t21
                · refine (?_ : aS l 2 MX12_order n0 S0 (oΦ (fun (x : Bool × RS) => (some (.int (b2i x.1)), rH mo h x.2))) 184 [(0, .ref mo)] [] (rH mo h s2) _) z (show _ = some z from hz) r h' hr
                  refine s_aload_n (pc := 184) 0 dX12_order_184 rfl ?_
                  refine s_bipush (v := 9) (pc := 185) dX12_order_185 (by decide) ?_
                  refine s_callV (M := MX12_order) (As := [.int 9]) (st := []) (Ψ := fun (x : Bool × RS) => (some (.int (b2i x.1)), rH mo h x.2)) cv_X12_90 (by decide) (pc := 187) dX12_order_187 r_0 (r_lt (k := 0) hh (by decide)) rfl (Nat.le_of_ble_eq_true rfl) (fun x hx => pX12_no_ok hh s2 (9 : Int32) x hx) rfl (fun x20 _ => ?_)
                  exact s_zretB (b := x20.1) (pc := 190) dX12_order_190 rfl (fun _ _ q => q)
                · refine (?_ : aS l 2 MX12_order n0 S0 (oΦ (fun (x : Bool × RS) => (some (.int (b2i x.1)), rH mo h x.2))) 206 [(0, .ref mo), (1, .int a0), (2, .int a1)] [] (rH mo h s2) _) z (show _ = some z from hz) r h' hr
                  refine s_iconst (v := 0) (pc := 206) dX12_order_206 (by decide) ?_
                  refine s_istore (lv' := [(5, .int 0), (0, .ref mo), (1, .int a0), (2, .int a1)]) (pc := 207) dX12_order_207 (by decide) rfl ?_
                  refine s_bind (Ψ := X12_order_x209 l n0 S0 mo h a0 a1) ?_ ?_
                  · refine s_sub [1, 2, 3, 0] rfl ?_
                    exact s_loop (lvf := fun (q : Int32 × RS) => [(0, .ref mo), (1, .int a0), (2, .int a1), (5, .int q.1)]) (stf := fun _ => []) (hf := fun (q : Int32 × RS) => rH mo h q.2) (fun q => X12_order_b209_ok hh a0 a1 q.1 q.2) FU ((0 : Int32), s2)
                  · intro t25 z r h' hz hr
                    refine (?_ : aS l 2 MX12_order n0 S0 (oΦ (fun (x : Bool × RS) => (some (.int (b2i x.1)), rH mo h x.2))) 239 [(0, .ref mo), (2, .int a1)] [] (rH mo h t25) _) z hz r h' hr
                    refine s_aload_n (pc := 239) 0 dX12_order_239 rfl ?_
                    refine rg_35 hh (pc := 240) dX12_order_240 rfl ?_
                    refine s_bipush (v := 118) (pc := 243) dX12_order_243 (by decide) ?_
                    refine s_iload_n (pc := 245) 1 dX12_order_245 rfl ?_
                    refine rs_4 hh (pc := 246) dX12_order_246 (fun s26 => ?_)
                    refine s_iconst (v := 1) (pc := 247) dX12_order_247 (by decide) ?_
                    exact s_zretB (b := true) (pc := 248) dX12_order_248 rfl (fun _ _ q => q)
        · refine s_aload_n (pc := 67) 0 dX12_order_67 rfl ?_
          refine s_iconst (v := 4) (pc := 68) dX12_order_68 (by decide) ?_
          refine s_callV (M := MX12_order) (As := [.int 4]) (st := []) (Ψ := fun (x : Bool × RS) => (some (.int (b2i x.1)), rH mo h x.2)) cv_X12_90 (by decide) (pc := 69) dX12_order_69 r_0 (r_lt (k := 0) hh (by decide)) rfl (Nat.le_of_ble_eq_true rfl) (fun x hx => pX12_no_ok hh s2 (4 : Int32) x hx) rfl (fun x27 _ => ?_)
          exact s_zretB (b := x27.1) (pc := 72) dX12_order_72 rfl (fun _ _ q => q)
      · refine s_aload_n (pc := 51) 0 dX12_order_51 rfl ?_
        refine s_iconst (v := 5) (pc := 52) dX12_order_52 (by decide) ?_
        refine s_callV (M := MX12_order) (As := [.int 5]) (st := []) (Ψ := fun (x : Bool × RS) => (some (.int (b2i x.1)), rH mo h x.2)) cv_X12_90 (by decide) (pc := 53) dX12_order_53 r_0 (r_lt (k := 0) hh (by decide)) rfl (Nat.le_of_ble_eq_true rfl) (fun x hx => pX12_no_ok hh s2 (5 : Int32) x hx) rfl (fun x28 _ => ?_)
        exact s_zretB (b := x28.1) (pc := 56) dX12_order_56 rfl (fun _ _ q => q)
    · refine s_aload_n (pc := 33) 0 dX12_order_33 rfl ?_
      refine s_iconst (v := 3) (pc := 34) dX12_order_34 (by decide) ?_
      refine s_callV (M := MX12_order) (As := [.int 3]) (st := []) (Ψ := fun (x : Bool × RS) => (some (.int (b2i x.1)), rH mo h x.2)) cv_X12_90 (by decide) (pc := 35) dX12_order_35 r_0 (r_lt (k := 0) hh (by decide)) rfl (Nat.le_of_ble_eq_true rfl) (fun x hx => pX12_no_ok hh s2 (3 : Int32) x hx) rfl (fun x29 _ => ?_)
      exact s_zretB (b := x29.1) (pc := 38) dX12_order_38 rfl (fun _ _ q => q)
  · refine s_aload_n (pc := 18) 0 dX12_order_18 rfl ?_
    refine s_iconst (v := 1) (pc := 19) dX12_order_19 (by decide) ?_
    refine s_callV (M := MX12_order) (As := [.int 1]) (st := []) (Ψ := fun (x : Bool × RS) => (some (.int (b2i x.1)), rH mo h x.2)) cv_X12_90 (by decide) (pc := 20) dX12_order_20 r_0 (r_lt (k := 0) hh (by decide)) rfl (Nat.le_of_ble_eq_true rfl) (fun x hx => pX12_no_ok hh s2 (1 : Int32) x hx) rfl (fun x30 _ => ?_)
    exact s_zretB (b := x30.1) (pc := 23) dX12_order_23 rfl (fun _ _ q => q)
theorem pX12_order_ok (hh : mo + 18 ≤ h.2.1) (s : RS) (a0 : Int32) (a1 : Int32) : ∀ x, pX12_order s a0 a1 = some x → aMet l 2 yX12_order cX12_order 7 (some .boolean) [.ref mo, .int a0, .int a1] (rH mo h s) (some (.int (b2i x.1))) (rH mo h x.2) := fun x hx => a_meth (ini := false) (y := yX12_order) (by decide +kernel) (fun q => by cases q) (fun _ => Nat.le_of_ble_eq_true rfl) (pX12_order_w hh s a0 a1) x hx _ _ ⟨rfl, rfl⟩
end
section
variable {l : Launch} {n0 S0 : Nat} {mo : Nat} {h : aH}
abbrev MX12_number : aM := (cX12_number, RX12, 8, (some .long), false)
def X12_number_x35 (l : Launch) (n0 S0 : Nat) (mo : Nat) (h : aH) (v1 : Int32) (s : RS) : Int64 → Option Value → aH → Prop := fun (x : Int64) r h' => aEv l 2 MX12_number n0 S0 134 [(2, .long x)] [] (rH mo h s) r h'
def X12_number_x62 (l : Launch) (n0 S0 : Nat) (mo : Nat) (h : aH) (v1 : Int32) (v4 : Int32) (v5 : Int32) (v6 : Int32) (s : RS) : Int64 → Option Value → aH → Prop := fun (x : Int64) r h' => aEv l 2 MX12_number n0 S0 119 [(0, .ref mo), (1, .int v1), (2, .long x), (4, .int v4), (5, .int v5), (6, .int v6)] [] (rH mo h s) r h'
def X12_number_j113 (v1 : Int32) (v2 : Int64) (v4 : Int32) (v5 : Int32) (v6 : Int32) (v7 : Int32) (s : RS) : Option ((Int64 × Int32) ⊕ Int64) :=
  thn (v7 + 1) fun x9 =>
  some (.inl (v2, x9))
theorem X12_number_j113_ok (hh : mo + 18 ≤ h.2.1) (v1 : Int32) (v2 : Int64) (v4 : Int32) (v5 : Int32) (v6 : Int32) (v7 : Int32) (s : RS) : aS l 2 MX12_number n0 S0 (a_LΦ (X12_number_x62 l n0 S0 mo h v1 v4 v5 v6 s) l 2 MX12_number n0 S0 62 (fun (q : Int64 × Int32) => [(0, .ref mo), (1, .int v1), (2, .long q.1), (4, .int v4), (5, .int v5), (6, .int v6), (7, .int q.2)]) (fun _ => []) (fun (q : Int64 × Int32) => rH mo h s)) 113 [(0, .ref mo), (1, .int v1), (2, .long v2), (4, .int v4), (5, .int v5), (6, .int v6), (7, .int v7)] [] (rH mo h s) (X12_number_j113 v1 v2 v4 v5 v6 v7 s) := by
  unfold X12_number_j113
  refine s_iincT (pc := 113) 6 (lv' := fun x9 => [(7, .int x9), (0, .ref mo), (1, .int v1), (2, .long v2), (4, .int v4), (5, .int v5), (6, .int v6)]) dX12_number_113 rfl rfl (by decide) (fun _ => rfl) (fun x9 => ?_)
  refine s_goto (tgt := 62) (pc := 116) dX12_number_116 (by decide) ?_
  refine s_sub [1, 2, 3, 4, 5, 6, 0] rfl ?_
  exact s_ev (fun _ _ q => q)
def X12_number_b62 (v1 : Int32) (v4 : Int32) (v5 : Int32) (v6 : Int32) (v2 : Int64) (v7 : Int32) (s : RS) : Option ((Int64 × Int32) ⊕ Int64) :=
  if v6 ≤ v7 then
    some (.inr v2)
  else
    (pX12_hasIn (v1 &&& (v4 ^^^ (-1 : Int32))) v7).bind fun x8 =>
    if x8 = true then
      g_in v7 16 (
      if ((s.2.2.1 9 v7.toNatClampNeg) &&& (v4 ^^^ (-1 : Int32))) = 0 then
        g_in (v4 ||| ((1 : Int32) <<< (v7 &&& 31))) 65536 (
        thn (v2 + (s.2.2.2 8 (v4 ||| ((1 : Int32) <<< (v7 &&& 31))).toNatClampNeg)) fun x10 =>
        X12_number_j113 v1 x10 v4 v5 v6 v7 s)
      else
        X12_number_j113 v1 v2 v4 v5 v6 v7 s)
    else
      X12_number_j113 v1 v2 v4 v5 v6 v7 s
theorem X12_number_b62_ok (hh : mo + 18 ≤ h.2.1) (v1 : Int32) (v4 : Int32) (v5 : Int32) (v6 : Int32) (v2 : Int64) (v7 : Int32) (s : RS) : aS l 2 MX12_number n0 S0 (a_LΦ (X12_number_x62 l n0 S0 mo h v1 v4 v5 v6 s) l 2 MX12_number n0 S0 62 (fun (q : Int64 × Int32) => [(0, .ref mo), (1, .int v1), (2, .long q.1), (4, .int v4), (5, .int v5), (6, .int v6), (7, .int q.2)]) (fun _ => []) (fun (q : Int64 × Int32) => rH mo h s)) 62 [(0, .ref mo), (1, .int v1), (2, .long v2), (4, .int v4), (5, .int v5), (6, .int v6), (7, .int v7)] [] (rH mo h s) (X12_number_b62 v1 v4 v5 v6 v2 v7 s) := by
  unfold X12_number_b62
  refine s_iload (pc := 62) 6 dX12_number_62 rfl ?_
  refine s_iload (pc := 64) 5 dX12_number_64 rfl ?_
  refine s_icmp_ge (tgt := 119) (pc := 66) dX12_number_66 (by decide) (fun _ => ?_) (fun _ => ?_)
  · refine s_sub [0, 1, 2, 3, 4, 5] rfl ?_
    exact s_ev (fun _ _ q => q)
  · refine s_iload_n (pc := 69) 1 dX12_number_69 rfl ?_
    refine s_iload (pc := 70) 3 dX12_number_70 rfl ?_
    refine s_iconst (v := (-1)) (pc := 72) dX12_number_72 (by decide) ?_
    refine s_ixor (pc := 73) dX12_number_73 ?_
    refine s_iand (pc := 74) dX12_number_74 ?_
    refine s_iload (pc := 75) 6 dX12_number_75 rfl ?_
    refine s_callS (M := MX12_number) (As := [.int (v1 &&& (v4 ^^^ (-1 : Int32))), .int v7]) (st := []) (Ψ := fun (x : Bool) => (some (.int (b2i x)), rH mo h s)) cs_X12_302 (by decide) (pc := 77) dX12_number_77 rfl (Nat.le_of_ble_eq_true rfl) (fun x hx => pX12_hasIn_ok (v1 &&& (v4 ^^^ (-1 : Int32))) v7 x hx) rfl (fun x8 _ => ?_)
    refine s_if_eqB (tgt := 113) (pc := 80) dX12_number_80 (by decide) (fun _ => ?_) (fun _ => ?_)
    · refine s_aload_n (pc := 83) 0 dX12_number_83 rfl ?_
      refine rg_51 hh (pc := 84) dX12_number_84 rfl ?_
      refine s_iload (pc := 87) 6 dX12_number_87 rfl ?_
      refine rl_9 hh (pc := 89) dX12_number_89 ?_
      refine s_iload (pc := 90) 3 dX12_number_90 rfl ?_
      refine s_iconst (v := (-1)) (pc := 92) dX12_number_92 (by decide) ?_
      refine s_ixor (pc := 93) dX12_number_93 ?_
      refine s_iand (pc := 94) dX12_number_94 ?_
      refine s_if_ne (tgt := 113) (pc := 95) dX12_number_95 (by decide) (fun _ => ?_) (fun _ => ?_)
      · refine s_lload_n (pc := 98) 2 dX12_number_98 rfl ?_
        refine s_aload_n (pc := 99) 0 dX12_number_99 rfl ?_
        refine rg_48 hh (pc := 100) dX12_number_100 rfl ?_
        refine s_iload (pc := 103) 3 dX12_number_103 rfl ?_
        refine s_iconst (v := 1) (pc := 105) dX12_number_105 (by decide) ?_
        refine s_iload (pc := 106) 6 dX12_number_106 rfl ?_
        refine s_ishl (pc := 108) dX12_number_108 ?_
        refine s_ior (pc := 109) dX12_number_109 ?_
        refine rl_8 hh (pc := 110) dX12_number_110 ?_
        refine s_ladd (pc := 111) dX12_number_111 ?_
        refine s_lstore_nT (lv' := fun x10 => [(2, .long x10), (0, .ref mo), (1, .int v1), (4, .int v4), (5, .int v5), (6, .int v6), (7, .int v7)]) (pc := 112) dX12_number_112 (by decide) (fun _ => rfl) (fun x10 => ?_)
        refine s_sub [1, 2, 0, 3, 4, 5, 6] rfl ?_
        exact X12_number_j113_ok hh v1 x10 v4 v5 v6 v7 s
      · exact X12_number_j113_ok hh v1 v2 v4 v5 v6 v7 s
    · exact X12_number_j113_ok hh v1 v2 v4 v5 v6 v7 s
def X12_number_b35 (v1 : Int32) (v2 : Int64) (v4 : Int32) (v5 : Int32) (s : RS) : Option ((Int64 × Int32 × Int32) ⊕ Int64) :=
  g_in (118 : Int32) 1800 (
  if (s.2.2.1 4 (118 : Int32).toNatClampNeg) ≤ v5 then
    some (.inr v2)
  else
    g_in ((119 : Int32) + v5) 1800 (
    thn (s.2.2.1 4 ((119 : Int32) + v5).toNatClampNeg) fun x7 =>
    (a_loop (fun (q : Int64 × Int32) => X12_number_b62 v1 v4 v5 x7 q.1 q.2 s) FU (v2, (0 : Int32))).bind fun (t11 : Int64) =>
      thn (v4 ||| ((1 : Int32) <<< (x7 &&& 31))) fun x12 =>
      thn (v5 + 1) fun x13 =>
      some (.inl (t11, x12, x13))))
theorem X12_number_b35_ok (hh : mo + 18 ≤ h.2.1) (v1 : Int32) (v2 : Int64) (v4 : Int32) (v5 : Int32) (s : RS) : aS l 2 MX12_number n0 S0 (a_LΦ (X12_number_x35 l n0 S0 mo h v1 s) l 2 MX12_number n0 S0 35 (fun (q : Int64 × Int32 × Int32) => [(0, .ref mo), (1, .int v1), (2, .long q.1), (4, .int q.2.1), (5, .int q.2.2)]) (fun _ => []) (fun (q : Int64 × Int32 × Int32) => rH mo h s)) 35 [(0, .ref mo), (1, .int v1), (2, .long v2), (4, .int v4), (5, .int v5)] [] (rH mo h s) (X12_number_b35 v1 v2 v4 v5 s) := by
  unfold X12_number_b35
  refine s_iload (pc := 35) 4 dX12_number_35 rfl ?_
  refine s_aload_n (pc := 37) 0 dX12_number_37 rfl ?_
  refine rg_35 hh (pc := 38) dX12_number_38 rfl ?_
  refine s_bipush (v := 118) (pc := 41) dX12_number_41 (by decide) ?_
  refine rl_4 hh (pc := 43) dX12_number_43 ?_
  refine s_icmp_ge (tgt := 134) (pc := 44) dX12_number_44 (by decide) (fun _ => ?_) (fun _ => ?_)
  · refine s_sub [2] rfl ?_
    exact s_ev (fun _ _ q => q)
  · refine s_aload_n (pc := 47) 0 dX12_number_47 rfl ?_
    refine rg_35 hh (pc := 48) dX12_number_48 rfl ?_
    refine s_bipush (v := 119) (pc := 51) dX12_number_51 (by decide) ?_
    refine s_iload (pc := 53) 4 dX12_number_53 rfl ?_
    refine s_iadd (pc := 55) dX12_number_55 ?_
    refine rl_4 hh (pc := 56) dX12_number_56 ?_
    refine s_istoreT (lv' := fun x7 => [(6, .int x7), (0, .ref mo), (1, .int v1), (2, .long v2), (4, .int v4), (5, .int v5)]) (pc := 57) dX12_number_57 (by decide) (fun _ => rfl) (fun x7 => ?_)
    refine s_iconst (v := 0) (pc := 59) dX12_number_59 (by decide) ?_
    refine s_istore (lv' := [(7, .int 0), (6, .int x7), (0, .ref mo), (1, .int v1), (2, .long v2), (4, .int v4), (5, .int v5)]) (pc := 60) dX12_number_60 (by decide) rfl ?_
    refine s_bind (Ψ := X12_number_x62 l n0 S0 mo h v1 v4 v5 x7 s) ?_ ?_
    · refine s_sub [2, 3, 4, 5, 6, 1, 0] rfl ?_
      exact s_loop (lvf := fun (q : Int64 × Int32) => [(0, .ref mo), (1, .int v1), (2, .long q.1), (4, .int v4), (5, .int v5), (6, .int x7), (7, .int q.2)]) (stf := fun _ => []) (hf := fun (q : Int64 × Int32) => rH mo h s) (fun q => X12_number_b62_ok hh v1 v4 v5 x7 q.1 q.2 s) FU (v2, (0 : Int32))
    · intro t11 z r h' hz hr
      refine (?_ : aS l 2 MX12_number n0 S0 (a_LΦ (X12_number_x35 l n0 S0 mo h v1 s) l 2 MX12_number n0 S0 35 (fun (q : Int64 × Int32 × Int32) => [(0, .ref mo), (1, .int v1), (2, .long q.1), (4, .int q.2.1), (5, .int q.2.2)]) (fun _ => []) (fun (q : Int64 × Int32 × Int32) => rH mo h s)) 119 [(0, .ref mo), (1, .int v1), (2, .long t11), (4, .int v4), (5, .int v5), (6, .int x7)] [] (rH mo h s) _) z hz r h' hr
      refine s_iload (pc := 119) 3 dX12_number_119 rfl ?_
      refine s_iconst (v := 1) (pc := 121) dX12_number_121 (by decide) ?_
      refine s_iload (pc := 122) 5 dX12_number_122 rfl ?_
      refine s_ishl (pc := 124) dX12_number_124 ?_
      refine s_ior (pc := 125) dX12_number_125 ?_
      refine s_istoreT (lv' := fun x12 => [(4, .int x12), (0, .ref mo), (1, .int v1), (2, .long t11), (5, .int v5), (6, .int x7)]) (pc := 126) dX12_number_126 (by decide) (fun _ => rfl) (fun x12 => ?_)
      refine s_iincT (pc := 128) 4 (lv' := fun x13 => [(5, .int x13), (4, .int x12), (0, .ref mo), (1, .int v1), (2, .long t11), (6, .int x7)]) dX12_number_128 rfl rfl (by decide) (fun _ => rfl) (fun x13 => ?_)
      refine s_goto (tgt := 35) (pc := 131) dX12_number_131 (by decide) ?_
      refine s_sub [2, 3, 4, 1, 0] rfl ?_
      exact s_ev (fun _ _ q => q)
def pX12_number (s : RS) : Option (Int64 × RS) :=
  thn (uI s 1 (0 : Int32)) fun s1 =>
  thn (uI s1 0 (0 : Int32)) fun s2 =>
  (pX12_orderSet s2).bind fun x3 =>
  (pX12_need s2 x3 (-1 : Int32) (-1 : Int32)).bind fun x4 =>
  (pX12_countWays x4 x3).bind fun x5 =>
  thn (0 : Int64) fun x6 =>
  (a_loop (fun (q : Int64 × Int32 × Int32) => X12_number_b35 x3 q.1 q.2.1 q.2.2 x5) FU (x6, (0 : Int32), (0 : Int32))).bind fun (t14 : Int64) =>
    some (t14, x5)
theorem pX12_number_w (hh : mo + 18 ≤ h.2.1) (s : RS) : aS l 2 MX12_number n0 S0 (oΦ (fun (x : Int64 × RS) => (some (.long x.1), rH mo h x.2))) 0 [(0, .ref mo)] [] (rH mo h s) (pX12_number s) := by
  unfold pX12_number
  refine s_aload_n (pc := 0) 0 dX12_number_0 rfl ?_
  refine s_iconst (v := 0) (pc := 1) dX12_number_1 (by decide) ?_
  refine rp_75 hh (pc := 2) dX12_number_2 rfl (fun s1 => ?_)
  refine s_aload_n (pc := 5) 0 dX12_number_5 rfl ?_
  refine s_iconst (v := 0) (pc := 6) dX12_number_6 (by decide) ?_
  refine rp_78 hh (pc := 7) dX12_number_7 rfl (fun s2 => ?_)
  refine s_aload_n (pc := 10) 0 dX12_number_10 rfl ?_
  refine s_callV (M := MX12_number) (As := []) (st := []) (Ψ := fun (x : Int32) => (some (.int x), rH mo h s2)) cv_X12_397 (by decide) (pc := 11) dX12_number_11 r_0 (r_lt (k := 0) hh (by decide)) rfl (Nat.le_of_ble_eq_true rfl) (fun x hx => pX12_orderSet_ok hh s2 x hx) rfl (fun x3 _ => ?_)
  refine s_istore_n (lv' := [(1, .int x3), (0, .ref mo)]) (pc := 14) dX12_number_14 (by decide) rfl ?_
  refine s_aload_n (pc := 15) 1 dX12_number_15 rfl ?_
  refine s_iload_n (pc := 16) 0 dX12_number_16 rfl ?_
  refine s_iconst (v := (-1)) (pc := 17) dX12_number_17 (by decide) ?_
  refine s_iconst (v := (-1)) (pc := 18) dX12_number_18 (by decide) ?_
  refine s_callV (M := MX12_number) (As := [.int x3, .int (-1), .int (-1)]) (st := []) (Ψ := fun (x : RS) => (none, rH mo h x)) cv_X12_377 (by decide) (pc := 19) dX12_number_19 r_0 (r_lt (k := 0) hh (by decide)) rfl (Nat.le_of_ble_eq_true rfl) (fun x hx => pX12_need_ok hh s2 x3 (-1 : Int32) (-1 : Int32) x hx) rfl (fun x4 _ => ?_)
  refine s_aload_n (pc := 22) 1 dX12_number_22 rfl ?_
  refine s_iload_n (pc := 23) 0 dX12_number_23 rfl ?_
  refine s_callV (M := MX12_number) (As := [.int x3]) (st := []) (Ψ := fun (x : RS) => (none, rH mo h x)) cv_X12_381 (by decide) (pc := 24) dX12_number_24 r_0 (r_lt (k := 0) hh (by decide)) rfl (Nat.le_of_ble_eq_true rfl) (fun x hx => pX12_countWays_ok hh x4 x3 x hx) rfl (fun x5 _ => ?_)
  refine s_lconst (v := 0) (pc := 27) dX12_number_27 (by decide) ?_
  refine s_lstore_nT (lv' := fun x6 => [(2, .long x6), (1, .int x3), (0, .ref mo)]) (pc := 28) dX12_number_28 (by decide) (fun _ => rfl) (fun x6 => ?_)
  refine s_iconst (v := 0) (pc := 29) dX12_number_29 (by decide) ?_
  refine s_istore (lv' := [(4, .int 0), (2, .long x6), (1, .int x3), (0, .ref mo)]) (pc := 30) dX12_number_30 (by decide) rfl ?_
  refine s_iconst (v := 0) (pc := 32) dX12_number_32 (by decide) ?_
  refine s_istore (lv' := [(5, .int 0), (4, .int 0), (2, .long x6), (1, .int x3), (0, .ref mo)]) (pc := 33) dX12_number_33 (by decide) rfl ?_
  refine s_bind (Ψ := X12_number_x35 l n0 S0 mo h x3 x5) ?_ ?_
  · refine s_sub [4, 3, 2, 1, 0] rfl ?_
    exact s_loop (lvf := fun (q : Int64 × Int32 × Int32) => [(0, .ref mo), (1, .int x3), (2, .long q.1), (4, .int q.2.1), (5, .int q.2.2)]) (stf := fun _ => []) (hf := fun (q : Int64 × Int32 × Int32) => rH mo h x5) (fun q => X12_number_b35_ok hh x3 q.1 q.2.1 q.2.2 x5) FU (x6, (0 : Int32), (0 : Int32))
  · intro t14 z r h' hz hr
    refine (?_ : aS l 2 MX12_number n0 S0 (oΦ (fun (x : Int64 × RS) => (some (.long x.1), rH mo h x.2))) 134 [(2, .long t14)] [] (rH mo h x5) _) z hz r h' hr
    refine s_lload_n (pc := 134) 0 dX12_number_134 rfl ?_
    exact s_lret (pc := 135) dX12_number_135 rfl (fun _ _ q => q)
theorem pX12_number_ok (hh : mo + 18 ≤ h.2.1) (s : RS) : ∀ x, pX12_number s = some x → aMet l 2 yX12_number cX12_number 8 (some .long) [.ref mo] (rH mo h s) (some (.long x.1)) (rH mo h x.2) := fun x hx => a_meth (ini := false) (y := yX12_number) (by decide +kernel) (fun q => by cases q) (fun _ => Nat.le_of_ble_eq_true rfl) (pX12_number_w hh s) x hx _ _ ⟨rfl, rfl⟩
end
section
variable {l : Launch} {n0 S0 : Nat} {mo : Nat} {h : aH}
abbrev MX12_orderAt : aM := (cX12_orderAt, RX12, 2, (some .int), false)
def pX12_orderAt (s : RS) (a0 : Int32) : Option (Int32 × RS) :=
  thn (uI s 1 (0 : Int32)) fun s1 =>
  thn (uI s1 0 (0 : Int32)) fun s2 =>
  g_in (118 : Int32) 1800 (
  (pX12_isIn a0.toInt64 (0 : Int64) (((s2.2.2.1 4 (118 : Int32).toNatClampNeg) - (1 : Int32)).toInt64)).bind fun x3 =>
  if x3 = true then
    g_in ((119 : Int32) + a0) 1800 (
    some ((s2.2.2.1 4 ((119 : Int32) + a0).toNatClampNeg), s2))
  else
    (pX12_refuse s2 (8 : Int32)).bind fun x4 =>
    some (x4.1, x4.2))
theorem pX12_orderAt_w (hh : mo + 18 ≤ h.2.1) (s : RS) (a0 : Int32) : aS l 1 MX12_orderAt n0 S0 (oΦ (fun (x : Int32 × RS) => (some (.int x.1), rH mo h x.2))) 0 [(0, .ref mo), (1, .int a0)] [] (rH mo h s) (pX12_orderAt s a0) := by
  unfold pX12_orderAt
  refine s_aload_n (pc := 0) 0 dX12_orderAt_0 rfl ?_
  refine s_iconst (v := 0) (pc := 1) dX12_orderAt_1 (by decide) ?_
  refine rp_75 hh (pc := 2) dX12_orderAt_2 rfl (fun s1 => ?_)
  refine s_aload_n (pc := 5) 0 dX12_orderAt_5 rfl ?_
  refine s_iconst (v := 0) (pc := 6) dX12_orderAt_6 (by decide) ?_
  refine rp_78 hh (pc := 7) dX12_orderAt_7 rfl (fun s2 => ?_)
  refine s_iload_n (pc := 10) 1 dX12_orderAt_10 rfl ?_
  refine s_i2l (pc := 11) dX12_orderAt_11 ?_
  refine s_lconst (v := 0) (pc := 12) dX12_orderAt_12 (by decide) ?_
  refine s_aload_n (pc := 13) 0 dX12_orderAt_13 rfl ?_
  refine rg_35 hh (pc := 14) dX12_orderAt_14 rfl ?_
  refine s_bipush (v := 118) (pc := 17) dX12_orderAt_17 (by decide) ?_
  refine rl_4 hh (pc := 19) dX12_orderAt_19 ?_
  refine s_iconst (v := 1) (pc := 20) dX12_orderAt_20 (by decide) ?_
  refine s_isub (pc := 21) dX12_orderAt_21 ?_
  refine s_i2l (pc := 22) dX12_orderAt_22 ?_
  refine s_callS (M := MX12_orderAt) (As := [.long a0.toInt64, .long (0 : Int64), .long ((s2.2.2.1 4 (118 : Int32).toNatClampNeg) - (1 : Int32)).toInt64]) (st := []) (Ψ := fun (x : Bool) => (some (.int (b2i x)), rH mo h s2)) cs_X12_110 (by decide) (pc := 23) dX12_orderAt_23 rfl (Nat.le_of_ble_eq_true rfl) (fun x hx => pX12_isIn_ok a0.toInt64 (0 : Int64) (((s2.2.2.1 4 (118 : Int32).toNatClampNeg) - (1 : Int32)).toInt64) x hx) rfl (fun x3 _ => ?_)
  refine s_if_eqB (tgt := 41) (pc := 26) dX12_orderAt_26 (by decide) (fun _ => ?_) (fun _ => ?_)
  · refine s_aload_n (pc := 29) 0 dX12_orderAt_29 rfl ?_
    refine rg_35 hh (pc := 30) dX12_orderAt_30 rfl ?_
    refine s_bipush (v := 119) (pc := 33) dX12_orderAt_33 (by decide) ?_
    refine s_iload_n (pc := 35) 1 dX12_orderAt_35 rfl ?_
    refine s_iadd (pc := 36) dX12_orderAt_36 ?_
    refine rl_4 hh (pc := 37) dX12_orderAt_37 ?_
    refine s_goto (tgt := 47) (pc := 38) dX12_orderAt_38 (by decide) ?_
    exact s_iret (pc := 47) dX12_orderAt_47 rfl (fun _ _ q => q)
  · refine s_aload_n (pc := 41) 0 dX12_orderAt_41 rfl ?_
    refine s_bipush (v := 8) (pc := 42) dX12_orderAt_42 (by decide) ?_
    refine s_callV (M := MX12_orderAt) (As := [.int 8]) (st := []) (Ψ := fun (x : Int32 × RS) => (some (.int x.1), rH mo h x.2)) cv_X12_299 (by decide) (pc := 44) dX12_orderAt_44 r_0 (r_lt (k := 0) hh (by decide)) rfl (Nat.le_of_ble_eq_true rfl) (fun x hx => pX12_refuse_ok hh s2 (8 : Int32) x hx) rfl (fun x4 _ => ?_)
    exact s_iret (pc := 47) dX12_orderAt_47 rfl (fun _ _ q => q)
theorem pX12_orderAt_ok (hh : mo + 18 ≤ h.2.1) (s : RS) (a0 : Int32) : ∀ x, pX12_orderAt s a0 = some x → aMet l 1 yX12_orderAt cX12_orderAt 2 (some .int) [.ref mo, .int a0] (rH mo h s) (some (.int x.1)) (rH mo h x.2) := fun x hx => a_meth (ini := false) (y := yX12_orderAt) (by decide +kernel) (fun q => by cases q) (fun _ => Nat.le_of_ble_eq_true rfl) (pX12_orderAt_w hh s a0) x hx _ _ ⟨rfl, rfl⟩
end
