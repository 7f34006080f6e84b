section
variable {l : Launch} {n0 S0 : Nat} {h : aH}
abbrev MX0_isIn : aM := (cX0_isIn, RX0, 2, (some .boolean), false)
def pX0_isIn (a0 : Int32) (a1 : Int32) : Option Bool :=
  if ((a0 >>> (a1 &&& 31)) &&& (1 : Int32)) = 0 then
    some false
  else
    some true
theorem pX0_isIn_w (a0 : Int32) (a1 : Int32) : aS l 0 MX0_isIn n0 S0 (oΦ (fun (x : Bool) => ((some (.int (b2i x))), h))) 0 [(0, .int a0), (1, .int a1)] [] (h) (pX0_isIn a0 a1) := by
  unfold pX0_isIn
  refine s_iload_n (pc := 0) 0 dX0_isIn_0 rfl ?_
  refine s_iload_n (pc := 1) 1 dX0_isIn_1 rfl ?_
  refine s_ishr (pc := 2) dX0_isIn_2 ?_
  refine s_iconst (v := 1) (pc := 3) dX0_isIn_3 (by decide) ?_
  refine s_iand (pc := 4) dX0_isIn_4 ?_
  refine s_if_eq (tgt := 12) (pc := 5) dX0_isIn_5 (by decide) (fun _ => ?_) (fun _ => ?_)
  · refine s_iconst (v := 0) (pc := 12) dX0_isIn_12 (by decide) ?_
    exact s_zretB (b := false) (pc := 13) dX0_isIn_13 rfl (fun _ _ q => q)
  · refine s_iconst (v := 1) (pc := 8) dX0_isIn_8 (by decide) ?_
    refine s_goto (tgt := 13) (pc := 9) dX0_isIn_9 (by decide) ?_
    exact s_zretB (b := true) (pc := 13) dX0_isIn_13 rfl (fun _ _ q => q)
theorem pX0_isIn_ok (a0 : Int32) (a1 : Int32) : ∀ x, pX0_isIn a0 a1 = some x → aMet l 0 yX0_isIn cX0_isIn 2 (some .boolean) [.int a0, .int a1] (h) (some (.int (b2i x))) (h) := fun x hx => a_meth (ini := false) (y := yX0_isIn) (by decide +kernel) (fun q => by cases q) (fun _ => Nat.le_of_ble_eq_true rfl) (pX0_isIn_w a0 a1) x hx _ _ ⟨rfl, rfl⟩
end
section
variable {l : Launch} {n0 S0 : Nat} {h : aH} {b0 : Nat} {f0 : Nat → Option Nat}
abbrev MX0_isChange : aM := (cX0_isChange, RX0, 2, (some .boolean), false)
def pX0_isChange (s0 : RS) (a0 : Int32) : Option Bool :=
  if a0 < 0 then
    some false
  else
    if (s0.1 1) ≤ a0 then
      some false
    else
      some true
theorem pX0_isChange_w (ho : xok [(0, b0)] h.2.1) (s0 : RS) (a0 : Int32) : aS l 0 MX0_isChange n0 S0 (oΦ (fun (x : Bool) => ((some (.int (b2i x))), xw [(0, b0, f0, s0)] h))) 0 [(0, .ref b0), (1, .int a0)] [] (xw [(0, b0, f0, s0)] h) (pX0_isChange s0 a0) := by
  unfold pX0_isChange
  refine s_iload_n (pc := 0) 1 dX0_isChange_0 rfl ?_
  refine s_if_lt (tgt := 16) (pc := 1) dX0_isChange_1 (by decide) (fun _ => ?_) (fun _ => ?_)
  · refine s_iconst (v := 0) (pc := 16) dX0_isChange_16 (by decide) ?_
    exact s_zretB (b := false) (pc := 17) dX0_isChange_17 rfl (fun _ _ q => q)
  · refine s_iload_n (pc := 4) 1 dX0_isChange_4 rfl ?_
    refine s_aload_n (pc := 5) 0 dX0_isChange_5 rfl ?_
    refine xg_X0_15 0 ho rfl (pc := 6) dX0_isChange_6 rfl ?_
    refine s_icmp_ge (tgt := 16) (pc := 9) dX0_isChange_9 (by decide) (fun _ => ?_) (fun _ => ?_)
    · refine s_iconst (v := 0) (pc := 16) dX0_isChange_16 (by decide) ?_
      exact s_zretB (b := false) (pc := 17) dX0_isChange_17 rfl (fun _ _ q => q)
    · refine s_iconst (v := 1) (pc := 12) dX0_isChange_12 (by decide) ?_
      refine s_goto (tgt := 17) (pc := 13) dX0_isChange_13 (by decide) ?_
      exact s_zretB (b := true) (pc := 17) dX0_isChange_17 rfl (fun _ _ q => q)
theorem pX0_isChange_ok (ho : xok [(0, b0)] h.2.1) (s0 : RS) (a0 : Int32) : ∀ x, pX0_isChange s0 a0 = some x → aMet l 0 yX0_isChange cX0_isChange 2 (some .boolean) [.ref b0, .int a0] (xw [(0, b0, f0, s0)] h) (some (.int (b2i x))) (xw [(0, b0, f0, s0)] h) := fun x hx => a_meth (ini := false) (y := yX0_isChange) (by decide +kernel) (fun q => by cases q) (fun _ => Nat.le_of_ble_eq_true rfl) (pX0_isChange_w ho s0 a0) x hx _ _ ⟨rfl, rfl⟩
end
section
variable {l : Launch} {n0 S0 : Nat} {h : aH} {b0 : Nat} {f0 : Nat → Option Nat}
abbrev MX0_isIsland : aM := (cX0_isIsland, RX0, 2, (some .boolean), false)
def pX0_isIsland (s0 : RS) (a0 : Int32) : Option Bool :=
  if a0 < 0 then
    some false
  else
    if (s0.1 0) ≤ a0 then
      some false
    else
      some true
theorem pX0_isIsland_w (ho : xok [(0, b0)] h.2.1) (s0 : RS) (a0 : Int32) : aS l 0 MX0_isIsland n0 S0 (oΦ (fun (x : Bool) => ((some (.int (b2i x))), xw [(0, b0, f0, s0)] h))) 0 [(0, .ref b0), (1, .int a0)] [] (xw [(0, b0, f0, s0)] h) (pX0_isIsland s0 a0) := by
  unfold pX0_isIsland
  refine s_iload_n (pc := 0) 1 dX0_isIsland_0 rfl ?_
  refine s_if_lt (tgt := 16) (pc := 1) dX0_isIsland_1 (by decide) (fun _ => ?_) (fun _ => ?_)
  · refine s_iconst (v := 0) (pc := 16) dX0_isIsland_16 (by decide) ?_
    exact s_zretB (b := false) (pc := 17) dX0_isIsland_17 rfl (fun _ _ q => q)
  · refine s_iload_n (pc := 4) 1 dX0_isIsland_4 rfl ?_
    refine s_aload_n (pc := 5) 0 dX0_isIsland_5 rfl ?_
    refine xg_X0_9 0 ho rfl (pc := 6) dX0_isIsland_6 rfl ?_
    refine s_icmp_ge (tgt := 16) (pc := 9) dX0_isIsland_9 (by decide) (fun _ => ?_) (fun _ => ?_)
    · refine s_iconst (v := 0) (pc := 16) dX0_isIsland_16 (by decide) ?_
      exact s_zretB (b := false) (pc := 17) dX0_isIsland_17 rfl (fun _ _ q => q)
    · refine s_iconst (v := 1) (pc := 12) dX0_isIsland_12 (by decide) ?_
      refine s_goto (tgt := 17) (pc := 13) dX0_isIsland_13 (by decide) ?_
      exact s_zretB (b := true) (pc := 17) dX0_isIsland_17 rfl (fun _ _ q => q)
theorem pX0_isIsland_ok (ho : xok [(0, b0)] h.2.1) (s0 : RS) (a0 : Int32) : ∀ x, pX0_isIsland s0 a0 = some x → aMet l 0 yX0_isIsland cX0_isIsland 2 (some .boolean) [.ref b0, .int a0] (xw [(0, b0, f0, s0)] h) (some (.int (b2i x))) (xw [(0, b0, f0, s0)] h) := fun x hx => a_meth (ini := false) (y := yX0_isIsland) (by decide +kernel) (fun q => by cases q) (fun _ => Nat.le_of_ble_eq_true rfl) (pX0_isIsland_w ho s0 a0) x hx _ _ ⟨rfl, rfl⟩
end
section
variable {l : Launch} {n0 S0 : Nat} {h : aH} {b0 : Nat} {f0 : Nat → Option Nat}
abbrev MX0_wholeSet : aM := (cX0_wholeSet, RX0, 1, (some .int), false)
def pX0_wholeSet (s0 : RS) : Option Int32 :=
  some (((1 : Int32) <<< ((s0.1 1) &&& 31)) - (1 : Int32))
theorem pX0_wholeSet_w (ho : xok [(0, b0)] h.2.1) (s0 : RS) : aS l 0 MX0_wholeSet n0 S0 (oΦ (fun (x : Int32) => ((some (.int x)), xw [(0, b0, f0, s0)] h))) 0 [(0, .ref b0)] [] (xw [(0, b0, f0, s0)] h) (pX0_wholeSet s0) := by
  unfold pX0_wholeSet
  refine s_iconst (v := 1) (pc := 0) dX0_wholeSet_0 (by decide) ?_
  refine s_aload_n (pc := 1) 0 dX0_wholeSet_1 rfl ?_
  refine xg_X0_15 0 ho rfl (pc := 2) dX0_wholeSet_2 rfl ?_
  refine s_ishl (pc := 5) dX0_wholeSet_5 ?_
  refine s_iconst (v := 1) (pc := 6) dX0_wholeSet_6 (by decide) ?_
  refine s_isub (pc := 7) dX0_wholeSet_7 ?_
  exact s_iret (pc := 8) dX0_wholeSet_8 rfl (fun _ _ q => q)
theorem pX0_wholeSet_ok (ho : xok [(0, b0)] h.2.1) (s0 : RS) : ∀ x, pX0_wholeSet s0 = some x → aMet l 0 yX0_wholeSet cX0_wholeSet 1 (some .int) [.ref b0] (xw [(0, b0, f0, s0)] h) (some (.int x)) (xw [(0, b0, f0, s0)] h) := fun x hx => a_meth (ini := false) (y := yX0_wholeSet) (by decide +kernel) (fun q => by cases q) (fun _ => Nat.le_of_ble_eq_true rfl) (pX0_wholeSet_w ho s0) x hx _ _ ⟨rfl, rfl⟩
end
section
variable {l : Launch} {n0 S0 : Nat} {h : aH} {b0 : Nat} {f0 : Nat → Option Nat}
abbrev MX0_isSet : aM := (cX0_isSet, RX0, 2, (some .boolean), false)
def pX0_isSet (s0 : RS) (a0 : Int32) : Option Bool :=
  if a0 < 0 then
    some false
  else
    (pX0_wholeSet s0).bind fun x1 =>
    if x1 < a0 then
      some false
    else
      some true
theorem pX0_isSet_w (ho : xok [(0, b0)] h.2.1) (s0 : RS) (a0 : Int32) : aS l 1 MX0_isSet n0 S0 (oΦ (fun (x : Bool) => ((some (.int (b2i x))), xw [(0, b0, f0, s0)] h))) 0 [(0, .ref b0), (1, .int a0)] [] (xw [(0, b0, f0, s0)] h) (pX0_isSet s0 a0) := by
  unfold pX0_isSet
  refine s_iload_n (pc := 0) 1 dX0_isSet_0 rfl ?_
  refine s_if_lt (tgt := 16) (pc := 1) dX0_isSet_1 (by decide) (fun _ => ?_) (fun _ => ?_)
  · refine s_iconst (v := 0) (pc := 16) dX0_isSet_16 (by decide) ?_
    exact s_zretB (b := false) (pc := 17) dX0_isSet_17 rfl (fun _ _ q => q)
  · refine s_iload_n (pc := 4) 1 dX0_isSet_4 rfl ?_
    refine s_aload_n (pc := 5) 0 dX0_isSet_5 rfl ?_
    refine x_callV (M := MX0_isSet) (L := [(0, b0, f0, s0)]) (h := h) (j := 0) (As := []) (st := [.int a0]) (A := fun (x : Int32) => some (.int x)) (Lc := [(0, b0, f0, s0)]) (Lr := fun (x : Int32) => [(0, b0, f0, s0)]) (L2 := fun (x : Int32) => [(0, b0, f0, s0)]) cv_X0_62 (by decide) (pc := 6) dX0_isSet_6 ho rfl xc0_0 rfl rfl (Nat.le_of_ble_eq_true rfl) (xovs (L := [(0, b0, f0, s0)]) (h := h) [(0, (0, b0, f0, s0))] ho ⟨rfl, trivial⟩).1 (fun x => (xovs (L := [(0, b0, f0, s0)]) (h := h) [(0, (0, b0, f0, s0))] ho ⟨rfl, trivial⟩).1) (fun x hx => pX0_wholeSet_ok (h := xw [(0, b0, f0, s0)] h) (f0 := f0) (xok_sub ho [0] rfl (by decide)) s0 x hx) rfl (fun x1 _ => ?_)
    refine s_icmp_gt (tgt := 16) (pc := 9) dX0_isSet_9 (by decide) (fun _ => ?_) (fun _ => ?_)
    · refine s_iconst (v := 0) (pc := 16) dX0_isSet_16 (by decide) ?_
      exact s_zretB (b := false) (pc := 17) dX0_isSet_17 rfl (fun _ _ q => q)
    · refine s_iconst (v := 1) (pc := 12) dX0_isSet_12 (by decide) ?_
      refine s_goto (tgt := 17) (pc := 13) dX0_isSet_13 (by decide) ?_
      exact s_zretB (b := true) (pc := 17) dX0_isSet_17 rfl (fun _ _ q => q)
theorem pX0_isSet_ok (ho : xok [(0, b0)] h.2.1) (s0 : RS) (a0 : Int32) : ∀ x, pX0_isSet s0 a0 = some x → aMet l 1 yX0_isSet cX0_isSet 2 (some .boolean) [.ref b0, .int a0] (xw [(0, b0, f0, s0)] h) (some (.int (b2i x))) (xw [(0, b0, f0, s0)] h) := fun x hx => a_meth (ini := false) (y := yX0_isSet) (by decide +kernel) (fun q => by cases q) (fun _ => Nat.le_of_ble_eq_true rfl) (pX0_isSet_w ho s0 a0) x hx _ _ ⟨rfl, rfl⟩
end
section
variable {l : Launch} {n0 S0 : Nat} {h : aH} {b0 : Nat} {f0 : Nat → Option Nat}
abbrev MX0_isPut : aM := (cX0_isPut, RX0, 2, (some .boolean), false)
def pX0_isPut (s0 : RS) (a0 : Int32) : Option Bool :=
  (pX0_isChange s0 a0).bind fun x1 =>
  if x1 = true then
    g_in a0 16 (
    if (s0.2.2.1 4 a0.toNatClampNeg) = 0 then
      some true
    else
      some false)
  else
    some false
theorem pX0_isPut_w (ho : xok [(0, b0)] h.2.1) (s0 : RS) (a0 : Int32) : aS l 1 MX0_isPut n0 S0 (oΦ (fun (x : Bool) => ((some (.int (b2i x))), xw [(0, b0, f0, s0)] h))) 0 [(0, .ref b0), (1, .int a0)] [] (xw [(0, b0, f0, s0)] h) (pX0_isPut s0 a0) := by
  unfold pX0_isPut
  refine s_aload_n (pc := 0) 0 dX0_isPut_0 rfl ?_
  refine s_iload_n (pc := 1) 1 dX0_isPut_1 rfl ?_
  refine x_callV (M := MX0_isPut) (L := [(0, b0, f0, s0)]) (h := h) (j := 0) (As := [.int a0]) (st := []) (A := fun (x : Bool) => some (.int (b2i x))) (Lc := [(0, b0, f0, s0)]) (Lr := fun (x : Bool) => [(0, b0, f0, s0)]) (L2 := fun (x : Bool) => [(0, b0, f0, s0)]) cv_X0_66 (by decide) (pc := 2) dX0_isPut_2 ho rfl xc0_0 rfl rfl (Nat.le_of_ble_eq_true rfl) (xovs (L := [(0, b0, f0, s0)]) (h := h) [(0, (0, b0, f0, s0))] ho ⟨rfl, trivial⟩).1 (fun x => (xovs (L := [(0, b0, f0, s0)]) (h := h) [(0, (0, b0, f0, s0))] ho ⟨rfl, trivial⟩).1) (fun x hx => pX0_isChange_ok (h := xw [(0, b0, f0, s0)] h) (f0 := f0) (xok_sub ho [0] rfl (by decide)) s0 a0 x hx) rfl (fun x1 _ => ?_)
  refine s_if_eqB (tgt := 21) (pc := 5) dX0_isPut_5 (by decide) (fun _ => ?_) (fun _ => ?_)
  · refine s_aload_n (pc := 8) 0 dX0_isPut_8 rfl ?_
    refine xg_X0_25 0 ho rfl (pc := 9) dX0_isPut_9 rfl ?_
    refine s_iload_n (pc := 12) 1 dX0_isPut_12 rfl ?_
    refine xl_0_4 0 ho rfl (pc := 13) dX0_isPut_13 ?_
    refine s_if_ne (tgt := 21) (pc := 14) dX0_isPut_14 (by decide) (fun _ => ?_) (fun _ => ?_)
    · refine s_iconst (v := 1) (pc := 17) dX0_isPut_17 (by decide) ?_
      refine s_goto (tgt := 22) (pc := 18) dX0_isPut_18 (by decide) ?_
      exact s_zretB (b := true) (pc := 22) dX0_isPut_22 rfl (fun _ _ q => q)
    · refine s_iconst (v := 0) (pc := 21) dX0_isPut_21 (by decide) ?_
      exact s_zretB (b := false) (pc := 22) dX0_isPut_22 rfl (fun _ _ q => q)
  · refine s_iconst (v := 0) (pc := 21) dX0_isPut_21 (by decide) ?_
    exact s_zretB (b := false) (pc := 22) dX0_isPut_22 rfl (fun _ _ q => q)
theorem pX0_isPut_ok (ho : xok [(0, b0)] h.2.1) (s0 : RS) (a0 : Int32) : ∀ x, pX0_isPut s0 a0 = some x → aMet l 1 yX0_isPut cX0_isPut 2 (some .boolean) [.ref b0, .int a0] (xw [(0, b0, f0, s0)] h) (some (.int (b2i x))) (xw [(0, b0, f0, s0)] h) := fun x hx => a_meth (ini := false) (y := yX0_isPut) (by decide +kernel) (fun q => by cases q) (fun _ => Nat.le_of_ble_eq_true rfl) (pX0_isPut_w ho s0 a0) x hx _ _ ⟨rfl, rfl⟩
end
section
variable {l : Launch} {n0 S0 : Nat} {h : aH} {b0 : Nat} {f0 : Nat → Option Nat}
abbrev MX0_findIsland : aM := (cX0_findIsland, RX0, 4, (some .int), false)
def X0_findIsland_x2 (l : Launch) (n0 S0 : Nat) (h : aH) (b0 : Nat) (f0 : Nat → Option Nat) (v1 : Int64) (s0 : RS) : (Int32 ⊕ Unit) → Option Value → aH → Prop := Sum.elim (fun (x : Int32) (r : Option Value) (h' : aH) => aEv l 0 MX0_findIsland n0 S0 21 [(3, .int x)] [] (xw [(0, b0, f0, s0)] h) r h') (fun (x : Unit) (r : Option Value) (h' : aH) => aEv l 0 MX0_findIsland n0 S0 29 [] [] (xw [(0, b0, f0, s0)] h) r h')
def X0_findIsland_b2 (v1 : Int64) (v3 : Int32) (s0 : RS) : Option (Int32 ⊕ (Int32 ⊕ Unit)) :=
  if (s0.1 0) ≤ v3 then
    some (.inr (.inr ()))
  else
    g_in v3 4 (
    if (s0.2.2.2 2 v3.toNatClampNeg) = v1 then
      some (.inr (.inl v3))
    else
      thn (v3 + 1) fun x1 =>
      some (.inl x1))
theorem X0_findIsland_b2_ok (ho : xok [(0, b0)] h.2.1) (v1 : Int64) (v3 : Int32) (s0 : RS) : aS l 0 MX0_findIsland n0 S0 (a_LΦ (X0_findIsland_x2 l n0 S0 h b0 f0 v1 s0) l 0 MX0_findIsland n0 S0 2 (fun (q : Int32) => [(0, .ref b0), (1, .long v1), (3, .int q)]) (fun _ => []) (fun (q : Int32) => xw [(0, b0, f0, s0)] h)) 2 [(0, .ref b0), (1, .long v1), (3, .int v3)] [] (xw [(0, b0, f0, s0)] h) (X0_findIsland_b2 v1 v3 s0) := by
  unfold X0_findIsland_b2
  refine s_iload_n (pc := 2) 2 dX0_findIsland_2 rfl ?_
  refine s_aload_n (pc := 3) 0 dX0_findIsland_3 rfl ?_
  refine xg_X0_9 0 ho rfl (pc := 4) dX0_findIsland_4 rfl ?_
  refine s_icmp_ge (tgt := 29) (pc := 7) dX0_findIsland_7 (by decide) (fun _ => ?_) (fun _ => ?_)
  · refine s_sub [] rfl ?_
    exact s_ev (fun _ _ q => q)
  · refine s_aload_n (pc := 10) 0 dX0_findIsland_10 rfl ?_
    refine xg_X0_18 0 ho rfl (pc := 11) dX0_findIsland_11 rfl ?_
    refine s_iload_n (pc := 14) 2 dX0_findIsland_14 rfl ?_
    refine xl_0_2 0 ho rfl (pc := 15) dX0_findIsland_15 ?_
    refine s_lload_n (pc := 16) 1 dX0_findIsland_16 rfl ?_
    refine s_lcmp (pc := 17) dX0_findIsland_17 ?_
    refine s_ifL (lg_cmp_z _ _) (s_if_ne (tgt := 23) (pc := 18) dX0_findIsland_18 (by decide) (fun _ => ?_) (fun _ => ?_))
    · refine s_sub [2] rfl ?_
      exact s_ev (fun _ _ q => q)
    · refine s_iincT (pc := 23) 2 (lv' := fun x1 => [(3, .int x1), (0, .ref b0), (1, .long v1)]) dX0_findIsland_23 rfl rfl (by decide) (fun _ => rfl) (fun x1 => ?_)
      refine s_goto (tgt := 2) (pc := 26) dX0_findIsland_26 (by decide) ?_
      refine s_sub [1, 2, 0] rfl ?_
      exact s_ev (fun _ _ q => q)
def pX0_findIsland (s0 : RS) (a0 : Int64) : Option Int32 :=
  (a_loop (fun (q : Int32) => X0_findIsland_b2 a0 q s0) FU (0 : Int32)).bind (Sum.elim (fun (t2 : Int32) =>
      some t2)
    (fun (t3 : Unit) =>
      some (-1 : Int32)))
theorem pX0_findIsland_w (ho : xok [(0, b0)] h.2.1) (s0 : RS) (a0 : Int64) : aS l 0 MX0_findIsland n0 S0 (oΦ (fun (x : Int32) => ((some (.int x)), xw [(0, b0, f0, s0)] h))) 0 [(0, .ref b0), (1, .long a0)] [] (xw [(0, b0, f0, s0)] h) (pX0_findIsland s0 a0) := by
  unfold pX0_findIsland
  refine s_iconst (v := 0) (pc := 0) dX0_findIsland_0 (by decide) ?_
  refine s_istore_n (lv' := [(3, .int 0), (0, .ref b0), (1, .long a0)]) (pc := 1) dX0_findIsland_1 (by decide) rfl ?_
  refine s_bind (Ψ := X0_findIsland_x2 l n0 S0 h b0 f0 a0 s0) ?_ ?_
  · refine s_sub [1, 2, 0] rfl ?_
    exact s_loop (lvf := fun (q : Int32) => [(0, .ref b0), (1, .long a0), (3, .int q)]) (stf := fun _ => []) (hf := fun (q : Int32) => xw [(0, b0, f0, s0)] h) (fun q => X0_findIsland_b2_ok ho a0 q s0) FU (0 : Int32)
  · intro x z r h' hz hr
    rcases x with t2 | t3
    · refine (?_ : aS l 0 MX0_findIsland n0 S0 (oΦ (fun (x : Int32) => ((some (.int x)), xw [(0, b0, f0, s0)] h))) 21 [(3, .int t2)] [] (xw [(0, b0, f0, s0)] h) _) z (show _ = some z from hz) r h' hr
      refine s_iload_n (pc := 21) 0 dX0_findIsland_21 rfl ?_
      exact s_iret (pc := 22) dX0_findIsland_22 rfl (fun _ _ q => q)
    · refine (?_ : aS l 0 MX0_findIsland n0 S0 (oΦ (fun (x : Int32) => ((some (.int x)), xw [(0, b0, f0, s0)] h))) 29 [] [] (xw [(0, b0, f0, s0)] h) _) z (show _ = some z from hz) r h' hr
      refine s_iconst (v := (-1)) (pc := 29) dX0_findIsland_29 (by decide) ?_
      exact s_iret (pc := 30) dX0_findIsland_30 rfl (fun _ _ q => q)
theorem pX0_findIsland_ok (ho : xok [(0, b0)] h.2.1) (s0 : RS) (a0 : Int64) : ∀ x, pX0_findIsland s0 a0 = some x → aMet l 0 yX0_findIsland cX0_findIsland 4 (some .int) [.ref b0, .long a0] (xw [(0, b0, f0, s0)] h) (some (.int x)) (xw [(0, b0, f0, s0)] h) := fun x hx => a_meth (ini := false) (y := yX0_findIsland) (by decide +kernel) (fun q => by cases q) (fun _ => Nat.le_of_ble_eq_true rfl) (pX0_findIsland_w ho s0 a0) x hx _ _ ⟨rfl, rfl⟩
end
section
variable {l : Launch} {n0 S0 : Nat} {h : aH} {b0 : Nat} {f0 : Nat → Option Nat}
abbrev MX0_findChange : aM := (cX0_findChange, RX0, 4, (some .int), false)
def X0_findChange_x2 (l : Launch) (n0 S0 : Nat) (h : aH) (b0 : Nat) (f0 : Nat → Option Nat) (v1 : Int64) (s0 : RS) : (Int32 ⊕ Unit) → Option Value → aH → Prop := Sum.elim (fun (x : Int32) (r : Option Value) (h' : aH) => aEv l 0 MX0_findChange n0 S0 21 [(3, .int x)] [] (xw [(0, b0, f0, s0)] h) r h') (fun (x : Unit) (r : Option Value) (h' : aH) => aEv l 0 MX0_findChange n0 S0 29 [] [] (xw [(0, b0, f0, s0)] h) r h')
def X0_findChange_b2 (v1 : Int64) (v3 : Int32) (s0 : RS) : Option (Int32 ⊕ (Int32 ⊕ Unit)) :=
  if (s0.1 1) ≤ v3 then
    some (.inr (.inr ()))
  else
    g_in v3 16 (
    if (s0.2.2.2 3 v3.toNatClampNeg) = v1 then
      some (.inr (.inl v3))
    else
      thn (v3 + 1) fun x1 =>
      some (.inl x1))
theorem X0_findChange_b2_ok (ho : xok [(0, b0)] h.2.1) (v1 : Int64) (v3 : Int32) (s0 : RS) : aS l 0 MX0_findChange n0 S0 (a_LΦ (X0_findChange_x2 l n0 S0 h b0 f0 v1 s0) l 0 MX0_findChange n0 S0 2 (fun (q : Int32) => [(0, .ref b0), (1, .long v1), (3, .int q)]) (fun _ => []) (fun (q : Int32) => xw [(0, b0, f0, s0)] h)) 2 [(0, .ref b0), (1, .long v1), (3, .int v3)] [] (xw [(0, b0, f0, s0)] h) (X0_findChange_b2 v1 v3 s0) := by
  unfold X0_findChange_b2
  refine s_iload_n (pc := 2) 2 dX0_findChange_2 rfl ?_
  refine s_aload_n (pc := 3) 0 dX0_findChange_3 rfl ?_
  refine xg_X0_15 0 ho rfl (pc := 4) dX0_findChange_4 rfl ?_
  refine s_icmp_ge (tgt := 29) (pc := 7) dX0_findChange_7 (by decide) (fun _ => ?_) (fun _ => ?_)
  · refine s_sub [] rfl ?_
    exact s_ev (fun _ _ q => q)
  · refine s_aload_n (pc := 10) 0 dX0_findChange_10 rfl ?_
    refine xg_X0_22 0 ho rfl (pc := 11) dX0_findChange_11 rfl ?_
    refine s_iload_n (pc := 14) 2 dX0_findChange_14 rfl ?_
    refine xl_0_3 0 ho rfl (pc := 15) dX0_findChange_15 ?_
    refine s_lload_n (pc := 16) 1 dX0_findChange_16 rfl ?_
    refine s_lcmp (pc := 17) dX0_findChange_17 ?_
    refine s_ifL (lg_cmp_z _ _) (s_if_ne (tgt := 23) (pc := 18) dX0_findChange_18 (by decide) (fun _ => ?_) (fun _ => ?_))
    · refine s_sub [2] rfl ?_
      exact s_ev (fun _ _ q => q)
    · refine s_iincT (pc := 23) 2 (lv' := fun x1 => [(3, .int x1), (0, .ref b0), (1, .long v1)]) dX0_findChange_23 rfl rfl (by decide) (fun _ => rfl) (fun x1 => ?_)
      refine s_goto (tgt := 2) (pc := 26) dX0_findChange_26 (by decide) ?_
      refine s_sub [1, 2, 0] rfl ?_
      exact s_ev (fun _ _ q => q)
def pX0_findChange (s0 : RS) (a0 : Int64) : Option Int32 :=
  (a_loop (fun (q : Int32) => X0_findChange_b2 a0 q s0) FU (0 : Int32)).bind (Sum.elim (fun (t2 : Int32) =>
      some t2)
    (fun (t3 : Unit) =>
      some (-1 : Int32)))
theorem pX0_findChange_w (ho : xok [(0, b0)] h.2.1) (s0 : RS) (a0 : Int64) : aS l 0 MX0_findChange n0 S0 (oΦ (fun (x : Int32) => ((some (.int x)), xw [(0, b0, f0, s0)] h))) 0 [(0, .ref b0), (1, .long a0)] [] (xw [(0, b0, f0, s0)] h) (pX0_findChange s0 a0) := by
  unfold pX0_findChange
  refine s_iconst (v := 0) (pc := 0) dX0_findChange_0 (by decide) ?_
  refine s_istore_n (lv' := [(3, .int 0), (0, .ref b0), (1, .long a0)]) (pc := 1) dX0_findChange_1 (by decide) rfl ?_
  refine s_bind (Ψ := X0_findChange_x2 l n0 S0 h b0 f0 a0 s0) ?_ ?_
  · refine s_sub [1, 2, 0] rfl ?_
    exact s_loop (lvf := fun (q : Int32) => [(0, .ref b0), (1, .long a0), (3, .int q)]) (stf := fun _ => []) (hf := fun (q : Int32) => xw [(0, b0, f0, s0)] h) (fun q => X0_findChange_b2_ok ho a0 q s0) FU (0 : Int32)
  · intro x z r h' hz hr
    rcases x with t2 | t3
    · refine (?_ : aS l 0 MX0_findChange n0 S0 (oΦ (fun (x : Int32) => ((some (.int x)), xw [(0, b0, f0, s0)] h))) 21 [(3, .int t2)] [] (xw [(0, b0, f0, s0)] h) _) z (show _ = some z from hz) r h' hr
      refine s_iload_n (pc := 21) 0 dX0_findChange_21 rfl ?_
      exact s_iret (pc := 22) dX0_findChange_22 rfl (fun _ _ q => q)
    · refine (?_ : aS l 0 MX0_findChange n0 S0 (oΦ (fun (x : Int32) => ((some (.int x)), xw [(0, b0, f0, s0)] h))) 29 [] [] (xw [(0, b0, f0, s0)] h) _) z (show _ = some z from hz) r h' hr
      refine s_iconst (v := (-1)) (pc := 29) dX0_findChange_29 (by decide) ?_
      exact s_iret (pc := 30) dX0_findChange_30 rfl (fun _ _ q => q)
theorem pX0_findChange_ok (ho : xok [(0, b0)] h.2.1) (s0 : RS) (a0 : Int64) : ∀ x, pX0_findChange s0 a0 = some x → aMet l 0 yX0_findChange cX0_findChange 4 (some .int) [.ref b0, .long a0] (xw [(0, b0, f0, s0)] h) (some (.int x)) (xw [(0, b0, f0, s0)] h) := fun x hx => a_meth (ini := false) (y := yX0_findChange) (by decide +kernel) (fun q => by cases q) (fun _ => Nat.le_of_ble_eq_true rfl) (pX0_findChange_w ho s0 a0) x hx _ _ ⟨rfl, rfl⟩
end
section
variable {l : Launch} {n0 S0 : Nat} {h : aH} {b0 : Nat} {f0 : Nat → Option Nat}
abbrev MX0_addIsland : aM := (cX0_addIsland, RX0, 3, none, false)
def pX0_addIsland (s0 : RS) (a0 : Int64) : Option RS :=
  if (4 : Int32) ≤ (s0.1 0) then
    some s0
  else
    g_in (s0.1 0) 4 (thn (uB s0 2 (vp_updL (s0.2.2.2 2) (s0.1 0).toNatClampNeg a0)) fun s_1 =>
    thn (uI s_1 0 ((s_1.1 0) + (1 : Int32))) fun s_2 =>
    some s_2)
theorem pX0_addIsland_w (ho : xok [(0, b0)] h.2.1) (s0 : RS) (a0 : Int64) : aS l 0 MX0_addIsland n0 S0 (oΦ (fun (x : RS) => (none, xw [(0, b0, f0, x)] h))) 0 [(0, .ref b0), (1, .long a0)] [] (xw [(0, b0, f0, s0)] h) (pX0_addIsland s0 a0) := by
  unfold pX0_addIsland
  refine s_aload_n (pc := 0) 0 dX0_addIsland_0 rfl ?_
  refine xg_X0_9 0 ho rfl (pc := 1) dX0_addIsland_1 rfl ?_
  refine s_iconst (v := 4) (pc := 4) dX0_addIsland_4 (by decide) ?_
  refine s_icmp_ge (tgt := 28) (pc := 5) dX0_addIsland_5 (by decide) (fun _ => ?_) (fun _ => ?_)
  · exact s_vret (pc := 28) dX0_addIsland_28 rfl (fun _ _ q => q)
  · refine s_aload_n (pc := 8) 0 dX0_addIsland_8 rfl ?_
    refine xg_X0_18 0 ho rfl (pc := 9) dX0_addIsland_9 rfl ?_
    refine s_aload_n (pc := 12) 0 dX0_addIsland_12 rfl ?_
    refine xg_X0_9 0 ho rfl (pc := 13) dX0_addIsland_13 rfl ?_
    refine s_lload_n (pc := 16) 1 dX0_addIsland_16 rfl ?_
    refine xs_0_2 (L' := fun s_1 => [(0, b0, f0, s_1)]) 0 ho rfl (fun _ => rfl) (pc := 17) dX0_addIsland_17 (fun s_1 => ?_)
    refine s_aload_n (pc := 18) 0 dX0_addIsland_18 rfl ?_
    refine s_dup (pc := 19) dX0_addIsland_19 rfl ?_
    refine xg_X0_9 0 ho rfl (pc := 20) dX0_addIsland_20 rfl ?_
    refine s_iconst (v := 1) (pc := 23) dX0_addIsland_23 (by decide) ?_
    refine s_iadd (pc := 24) dX0_addIsland_24 ?_
    refine xp_X0_9 (L' := fun s_2 => [(0, b0, f0, s_2)]) 0 ho rfl (fun _ => rfl) (pc := 25) dX0_addIsland_25 rfl (fun s_2 => ?_)
    exact s_vret (pc := 28) dX0_addIsland_28 rfl (fun _ _ q => q)
theorem pX0_addIsland_ok (ho : xok [(0, b0)] h.2.1) (s0 : RS) (a0 : Int64) : ∀ x, pX0_addIsland s0 a0 = some x → aMet l 0 yX0_addIsland cX0_addIsland 3 none [.ref b0, .long a0] (xw [(0, b0, f0, s0)] h) none (xw [(0, b0, f0, x)] h) := fun x hx => a_meth (ini := false) (y := yX0_addIsland) (by decide +kernel) (fun q => by cases q) (fun _ => Nat.le_of_ble_eq_true rfl) (pX0_addIsland_w ho s0 a0) x hx _ _ ⟨rfl, rfl⟩
end
section
variable {l : Launch} {n0 S0 : Nat} {h : aH}
abbrev MX0_doClash : aM := (cX0_doClash, RX0, 2, (some .boolean), false)
def X0_doClash_j10 (v0 : Int32) (v1 : Int32) : Option Bool :=
  if v1 = v0 then
    some true
  else
    if v1 = (1 : Int32) then
      some true
    else
      some false
theorem X0_doClash_j10_ok (v0 : Int32) (v1 : Int32) : aS l 0 MX0_doClash n0 S0 (oΦ (fun (x : Bool) => ((some (.int (b2i x))), h))) 10 [(0, .int v0), (1, .int v1)] [] (h) (X0_doClash_j10 v0 v1) := by
  unfold X0_doClash_j10
  refine s_iload_n (pc := 10) 1 dX0_doClash_10 rfl ?_
  refine s_iload_n (pc := 11) 0 dX0_doClash_11 rfl ?_
  refine s_icmp_eq (tgt := 20) (pc := 12) dX0_doClash_12 (by decide) (fun _ => ?_) (fun _ => ?_)
  · refine s_iconst (v := 1) (pc := 20) dX0_doClash_20 (by decide) ?_
    refine s_goto (tgt := 25) (pc := 21) dX0_doClash_21 (by decide) ?_
    exact s_zretB (b := true) (pc := 25) dX0_doClash_25 rfl (fun _ _ q => q)
  · refine s_iload_n (pc := 15) 1 dX0_doClash_15 rfl ?_
    refine s_iconst (v := 1) (pc := 16) dX0_doClash_16 (by decide) ?_
    refine s_icmp_ne (tgt := 24) (pc := 17) dX0_doClash_17 (by decide) (fun _ => ?_) (fun _ => ?_)
    · refine s_iconst (v := 1) (pc := 20) dX0_doClash_20 (by decide) ?_
      refine s_goto (tgt := 25) (pc := 21) dX0_doClash_21 (by decide) ?_
      exact s_zretB (b := true) (pc := 25) dX0_doClash_25 rfl (fun _ _ q => q)
    · refine s_iconst (v := 0) (pc := 24) dX0_doClash_24 (by decide) ?_
      exact s_zretB (b := false) (pc := 25) dX0_doClash_25 rfl (fun _ _ q => q)
def pX0_doClash (a0 : Int32) (a1 : Int32) : Option Bool :=
  if a0 = (2 : Int32) then
    X0_doClash_j10 a0 a1
  else
    if a0 = (3 : Int32) then
      X0_doClash_j10 a0 a1
    else
      if a0 = (1 : Int32) then
        if a1 = (2 : Int32) then
          some true
        else
          if a1 = (3 : Int32) then
            some true
          else
            some false
      else
        some false
theorem pX0_doClash_w (a0 : Int32) (a1 : Int32) : aS l 0 MX0_doClash n0 S0 (oΦ (fun (x : Bool) => ((some (.int (b2i x))), h))) 0 [(0, .int a0), (1, .int a1)] [] (h) (pX0_doClash a0 a1) := by
  unfold pX0_doClash
  refine s_iload_n (pc := 0) 0 dX0_doClash_0 rfl ?_
  refine s_iconst (v := 2) (pc := 1) dX0_doClash_1 (by decide) ?_
  refine s_icmp_eq (tgt := 10) (pc := 2) dX0_doClash_2 (by decide) (fun _ => ?_) (fun _ => ?_)
  · exact X0_doClash_j10_ok a0 a1
  · refine s_iload_n (pc := 5) 0 dX0_doClash_5 rfl ?_
    refine s_iconst (v := 3) (pc := 6) dX0_doClash_6 (by decide) ?_
    refine s_icmp_ne (tgt := 26) (pc := 7) dX0_doClash_7 (by decide) (fun _ => ?_) (fun _ => ?_)
    · exact X0_doClash_j10_ok a0 a1
    · refine s_iload_n (pc := 26) 0 dX0_doClash_26 rfl ?_
      refine s_iconst (v := 1) (pc := 27) dX0_doClash_27 (by decide) ?_
      refine s_icmp_ne (tgt := 45) (pc := 28) dX0_doClash_28 (by decide) (fun _ => ?_) (fun _ => ?_)
      · refine s_iload_n (pc := 31) 1 dX0_doClash_31 rfl ?_
        refine s_iconst (v := 2) (pc := 32) dX0_doClash_32 (by decide) ?_
        refine s_icmp_eq (tgt := 41) (pc := 33) dX0_doClash_33 (by decide) (fun _ => ?_) (fun _ => ?_)
        · refine s_iconst (v := 1) (pc := 41) dX0_doClash_41 (by decide) ?_
          refine s_goto (tgt := 46) (pc := 42) dX0_doClash_42 (by decide) ?_
          exact s_zretB (b := true) (pc := 46) dX0_doClash_46 rfl (fun _ _ q => q)
        · refine s_iload_n (pc := 36) 1 dX0_doClash_36 rfl ?_
          refine s_iconst (v := 3) (pc := 37) dX0_doClash_37 (by decide) ?_
          refine s_icmp_ne (tgt := 45) (pc := 38) dX0_doClash_38 (by decide) (fun _ => ?_) (fun _ => ?_)
          · refine s_iconst (v := 1) (pc := 41) dX0_doClash_41 (by decide) ?_
            refine s_goto (tgt := 46) (pc := 42) dX0_doClash_42 (by decide) ?_
            exact s_zretB (b := true) (pc := 46) dX0_doClash_46 rfl (fun _ _ q => q)
          · refine s_iconst (v := 0) (pc := 45) dX0_doClash_45 (by decide) ?_
            exact s_zretB (b := false) (pc := 46) dX0_doClash_46 rfl (fun _ _ q => q)
      · refine s_iconst (v := 0) (pc := 45) dX0_doClash_45 (by decide) ?_
        exact s_zretB (b := false) (pc := 46) dX0_doClash_46 rfl (fun _ _ q => q)
theorem pX0_doClash_ok (a0 : Int32) (a1 : Int32) : ∀ x, pX0_doClash a0 a1 = some x → aMet l 0 yX0_doClash cX0_doClash 2 (some .boolean) [.int a0, .int a1] (h) (some (.int (b2i x))) (h) := fun x hx => a_meth (ini := false) (y := yX0_doClash) (by decide +kernel) (fun q => by cases q) (fun _ => Nat.le_of_ble_eq_true rfl) (pX0_doClash_w a0 a1) x hx _ _ ⟨rfl, rfl⟩
end
section
variable {l : Launch} {n0 S0 : Nat} {h : aH} {b0 : Nat} {f0 : Nat → Option Nat}
abbrev MX0_addChange : aM := (cX0_addChange, RX0, 3, none, false)
def X0_addChange_x33 (l : Launch) (n0 S0 : Nat) (h : aH) (b0 : Nat) (f0 : Nat → Option Nat) (v1 : Int32) : RS → Option Value → aH → Prop := fun (x : RS) r h' => aEv l 1 MX0_addChange n0 S0 95 [(0, .ref b0), (1, .int v1)] [] (xw [(0, b0, f0, x)] h) r h'
def X0_addChange_j89 (v1 : Int32) (v2 : Int32) (s0 : RS) : Option ((Int32 × RS) ⊕ RS) :=
  thn (v2 + 1) fun x5 =>
  some (.inl (x5, s0))
theorem X0_addChange_j89_ok (ho : xok [(0, b0)] h.2.1) (v1 : Int32) (v2 : Int32) (s0 : RS) : aS l 1 MX0_addChange n0 S0 (a_LΦ (X0_addChange_x33 l n0 S0 h b0 f0 v1) l 1 MX0_addChange n0 S0 33 (fun (q : Int32 × RS) => [(0, .ref b0), (1, .int v1), (2, .int q.1)]) (fun _ => []) (fun (q : Int32 × RS) => xw [(0, b0, f0, q.2)] h)) 89 [(0, .ref b0), (1, .int v1), (2, .int v2)] [] (xw [(0, b0, f0, s0)] h) (X0_addChange_j89 v1 v2 s0) := by
  unfold X0_addChange_j89
  refine s_iincT (pc := 89) 2 (lv' := fun x5 => [(2, .int x5), (0, .ref b0), (1, .int v1)]) dX0_addChange_89 rfl rfl (by decide) (fun _ => rfl) (fun x5 => ?_)
  refine s_goto (tgt := 33) (pc := 92) dX0_addChange_92 (by decide) ?_
  refine s_sub [1, 2, 0] rfl ?_
  exact s_ev (fun _ _ q => q)
def X0_addChange_b33 (v1 : Int32) (v2 : Int32) (s0 : RS) : Option ((Int32 × RS) ⊕ RS) :=
  if v1 ≤ v2 then
    some (.inr s0)
  else
    g_in v1 16 (
    (pX0_isIn (s0.2.2.1 9 v1.toNatClampNeg) v2).bind fun x4 =>
    if x4 = true then
      g_in v1 16 (
      g_in v2 16 (
      g_in v1 16 (thn (uA s0 10 (upd (s0.2.2.1 10) v1.toNatClampNeg ((s0.2.2.1 10 v1.toNatClampNeg) ||| (s0.2.2.1 10 v2.toNatClampNeg)))) fun s_6 =>
      g_in v1 16 (
      g_in v2 16 (
      (pJ9_max_7cf53 (s_6.2.2.1 8 v1.toNatClampNeg) ((s_6.2.2.1 8 v2.toNatClampNeg) + (1 : Int32))).bind fun x7 =>
      g_in v1 16 (thn (uA s_6 8 (upd (s_6.2.2.1 8) v1.toNatClampNeg x7)) fun s_8 =>
      X0_addChange_j89 v1 v2 s_8))))))
    else
      X0_addChange_j89 v1 v2 s0)
theorem X0_addChange_b33_ok (ho : xok [(0, b0)] h.2.1) (v1 : Int32) (v2 : Int32) (s0 : RS) : aS l 1 MX0_addChange n0 S0 (a_LΦ (X0_addChange_x33 l n0 S0 h b0 f0 v1) l 1 MX0_addChange n0 S0 33 (fun (q : Int32 × RS) => [(0, .ref b0), (1, .int v1), (2, .int q.1)]) (fun _ => []) (fun (q : Int32 × RS) => xw [(0, b0, f0, q.2)] h)) 33 [(0, .ref b0), (1, .int v1), (2, .int v2)] [] (xw [(0, b0, f0, s0)] h) (X0_addChange_b33 v1 v2 s0) := by
  unfold X0_addChange_b33
  refine s_iload_n (pc := 33) 2 dX0_addChange_33 rfl ?_
  refine s_iload_n (pc := 34) 1 dX0_addChange_34 rfl ?_
  refine s_icmp_ge (tgt := 95) (pc := 35) dX0_addChange_35 (by decide) (fun _ => ?_) (fun _ => ?_)
  · refine s_sub [0, 1] rfl ?_
    exact s_ev (fun _ _ q => q)
  · refine s_aload_n (pc := 38) 0 dX0_addChange_38 rfl ?_
    refine xg_X0_41 0 ho rfl (pc := 39) dX0_addChange_39 rfl ?_
    refine s_iload_n (pc := 42) 1 dX0_addChange_42 rfl ?_
    refine xl_0_9 0 ho rfl (pc := 43) dX0_addChange_43 ?_
    refine s_iload_n (pc := 44) 2 dX0_addChange_44 rfl ?_
    refine s_callS (M := MX0_addChange) (As := [.int (s0.2.2.1 9 v1.toNatClampNeg), .int v2]) (st := []) (Ψ := fun (x : Bool) => (some (.int (b2i x)), xw [(0, b0, f0, s0)] h)) cs_X0_70 (by decide) (pc := 45) dX0_addChange_45 rfl (Nat.le_of_ble_eq_true rfl) (fun x hx => pX0_isIn_ok (s0.2.2.1 9 v1.toNatClampNeg) v2 x hx) rfl (fun x4 _ => ?_)
    refine s_if_eqB (tgt := 89) (pc := 48) dX0_addChange_48 (by decide) (fun _ => ?_) (fun _ => ?_)
    · refine s_aload_n (pc := 51) 0 dX0_addChange_51 rfl ?_
      refine xg_X0_44 0 ho rfl (pc := 52) dX0_addChange_52 rfl ?_
      refine s_iload_n (pc := 55) 1 dX0_addChange_55 rfl ?_
      refine s_dup2_11 (pc := 56) dX0_addChange_56 rfl rfl ?_
      refine xl_0_10 0 ho rfl (pc := 57) dX0_addChange_57 ?_
      refine s_aload_n (pc := 58) 0 dX0_addChange_58 rfl ?_
      refine xg_X0_44 0 ho rfl (pc := 59) dX0_addChange_59 rfl ?_
      refine s_iload_n (pc := 62) 2 dX0_addChange_62 rfl ?_
      refine xl_0_10 0 ho rfl (pc := 63) dX0_addChange_63 ?_
      refine s_ior (pc := 64) dX0_addChange_64 ?_
      refine xs_0_10 (L' := fun s_6 => [(0, b0, f0, s_6)]) 0 ho rfl (fun _ => rfl) (pc := 65) dX0_addChange_65 (fun s_6 => ?_)
      refine s_aload_n (pc := 66) 0 dX0_addChange_66 rfl ?_
      refine xg_X0_38 0 ho rfl (pc := 67) dX0_addChange_67 rfl ?_
      refine s_iload_n (pc := 70) 1 dX0_addChange_70 rfl ?_
      refine s_aload_n (pc := 71) 0 dX0_addChange_71 rfl ?_
      refine xg_X0_38 0 ho rfl (pc := 72) dX0_addChange_72 rfl ?_
      refine s_iload_n (pc := 75) 1 dX0_addChange_75 rfl ?_
      refine xl_0_8 0 ho rfl (pc := 76) dX0_addChange_76 ?_
      refine s_aload_n (pc := 77) 0 dX0_addChange_77 rfl ?_
      refine xg_X0_38 0 ho rfl (pc := 78) dX0_addChange_78 rfl ?_
      refine s_iload_n (pc := 81) 2 dX0_addChange_81 rfl ?_
      refine xl_0_8 0 ho rfl (pc := 82) dX0_addChange_82 ?_
      refine s_iconst (v := 1) (pc := 83) dX0_addChange_83 (by decide) ?_
      refine s_iadd (pc := 84) dX0_addChange_84 ?_
      refine s_callS (M := MX0_addChange) (As := [.int (s_6.2.2.1 8 v1.toNatClampNeg), .int ((s_6.2.2.1 8 v2.toNatClampNeg) + (1 : Int32))]) (st := [.int v1, .ref (b0 + 7)]) (Ψ := fun (x : Int32) => (some (.int x), xw [(0, b0, f0, s_6)] h)) cs_X0_74 (by decide) (pc := 85) dX0_addChange_85 rfl (Nat.le_of_ble_eq_true rfl) (fun x hx => pJ9_max_7cf53_ok (s_6.2.2.1 8 v1.toNatClampNeg) ((s_6.2.2.1 8 v2.toNatClampNeg) + (1 : Int32)) x hx) rfl (fun x7 _ => ?_)
      refine xs_0_8 (L' := fun s_8 => [(0, b0, f0, s_8)]) 0 ho rfl (fun _ => rfl) (pc := 88) dX0_addChange_88 (fun s_8 => ?_)
      exact X0_addChange_j89_ok ho v1 v2 s_8
    · exact X0_addChange_j89_ok ho v1 v2 s0
def X0_addChange_x97 (l : Launch) (n0 S0 : Nat) (h : aH) (b0 : Nat) (f0 : Nat → Option Nat) (v1 : Int32) : RS → Option Value → aH → Prop := fun (x : RS) r h' => aEv l 1 MX0_addChange n0 S0 193 [(0, .ref b0), (1, .int v1)] [] (xw [(0, b0, f0, x)] h) r h'
def X0_addChange_j187 (v1 : Int32) (v2 : Int32) (s0 : RS) : Option ((Int32 × RS) ⊕ RS) :=
  thn (v2 + 1) fun x11 =>
  some (.inl (x11, s0))
theorem X0_addChange_j187_ok (ho : xok [(0, b0)] h.2.1) (v1 : Int32) (v2 : Int32) (s0 : RS) : aS l 1 MX0_addChange n0 S0 (a_LΦ (X0_addChange_x97 l n0 S0 h b0 f0 v1) l 1 MX0_addChange n0 S0 97 (fun (q : Int32 × RS) => [(0, .ref b0), (1, .int v1), (2, .int q.1)]) (fun _ => []) (fun (q : Int32 × RS) => xw [(0, b0, f0, q.2)] h)) 187 [(0, .ref b0), (1, .int v1), (2, .int v2)] [] (xw [(0, b0, f0, s0)] h) (X0_addChange_j187 v1 v2 s0) := by
  unfold X0_addChange_j187
  refine s_iincT (pc := 187) 2 (lv' := fun x11 => [(2, .int x11), (0, .ref b0), (1, .int v1)]) dX0_addChange_187 rfl rfl (by decide) (fun _ => rfl) (fun x11 => ?_)
  refine s_goto (tgt := 97) (pc := 190) dX0_addChange_190 (by decide) ?_
  refine s_sub [1, 2, 0] rfl ?_
  exact s_ev (fun _ _ q => q)
def X0_addChange_b97 (v1 : Int32) (v2 : Int32) (s0 : RS) : Option ((Int32 × RS) ⊕ RS) :=
  if v1 ≤ v2 then
    some (.inr s0)
  else
    g_in v1 16 (
    (pX0_isIn (s0.2.2.1 10 v1.toNatClampNeg) v2).bind fun x10 =>
    if x10 = true then
      g_in v2 16 (
      g_in v2 16 (thn (uA s0 11 (upd (s0.2.2.1 11) v2.toNatClampNeg ((s0.2.2.1 11 v2.toNatClampNeg) ||| ((1 : Int32) <<< (v1 &&& 31))))) fun s_15 =>
      X0_addChange_j187 v1 v2 s_15))
    else
      g_in v2 16 (
      g_in v1 16 (
      if (s0.2.2.1 7 v2.toNatClampNeg) = (s0.2.2.1 7 v1.toNatClampNeg) then
        g_in v2 16 (
        g_in v1 16 (
        (pX0_doClash (s0.2.2.1 4 v2.toNatClampNeg) (s0.2.2.1 4 v1.toNatClampNeg)).bind fun x12 =>
        if x12 = true then
          g_in v2 16 (
          g_in v2 16 (thn (uA s0 12 (upd (s0.2.2.1 12) v2.toNatClampNeg ((s0.2.2.1 12 v2.toNatClampNeg) ||| ((1 : Int32) <<< (v1 &&& 31))))) fun s_13 =>
          g_in v1 16 (
          g_in v1 16 (thn (uA s_13 12 (upd (s_13.2.2.1 12) v1.toNatClampNeg ((s_13.2.2.1 12 v1.toNatClampNeg) ||| ((1 : Int32) <<< (v2 &&& 31))))) fun s_14 =>
          X0_addChange_j187 v1 v2 s_14))))
        else
          X0_addChange_j187 v1 v2 s0))
      else
        X0_addChange_j187 v1 v2 s0)))
theorem X0_addChange_b97_ok (ho : xok [(0, b0)] h.2.1) (v1 : Int32) (v2 : Int32) (s0 : RS) : aS l 1 MX0_addChange n0 S0 (a_LΦ (X0_addChange_x97 l n0 S0 h b0 f0 v1) l 1 MX0_addChange n0 S0 97 (fun (q : Int32 × RS) => [(0, .ref b0), (1, .int v1), (2, .int q.1)]) (fun _ => []) (fun (q : Int32 × RS) => xw [(0, b0, f0, q.2)] h)) 97 [(0, .ref b0), (1, .int v1), (2, .int v2)] [] (xw [(0, b0, f0, s0)] h) (X0_addChange_b97 v1 v2 s0) := by
  unfold X0_addChange_b97
  refine s_iload_n (pc := 97) 2 dX0_addChange_97 rfl ?_
  refine s_iload_n (pc := 98) 1 dX0_addChange_98 rfl ?_
  refine s_icmp_ge (tgt := 193) (pc := 99) dX0_addChange_99 (by decide) (fun _ => ?_) (fun _ => ?_)
  · refine s_sub [0, 1] rfl ?_
    exact s_ev (fun _ _ q => q)
  · refine s_aload_n (pc := 102) 0 dX0_addChange_102 rfl ?_
    refine xg_X0_44 0 ho rfl (pc := 103) dX0_addChange_103 rfl ?_
    refine s_iload_n (pc := 106) 1 dX0_addChange_106 rfl ?_
    refine xl_0_10 0 ho rfl (pc := 107) dX0_addChange_107 ?_
    refine s_iload_n (pc := 108) 2 dX0_addChange_108 rfl ?_
    refine s_callS (M := MX0_addChange) (As := [.int (s0.2.2.1 10 v1.toNatClampNeg), .int v2]) (st := []) (Ψ := fun (x : Bool) => (some (.int (b2i x)), xw [(0, b0, f0, s0)] h)) cs_X0_70 (by decide) (pc := 109) dX0_addChange_109 rfl (Nat.le_of_ble_eq_true rfl) (fun x hx => pX0_isIn_ok (s0.2.2.1 10 v1.toNatClampNeg) v2 x hx) rfl (fun x10 _ => ?_)
    refine s_if_eqB (tgt := 130) (pc := 112) dX0_addChange_112 (by decide) (fun _ => ?_) (fun _ => ?_)
    · refine s_aload_n (pc := 115) 0 dX0_addChange_115 rfl ?_
      refine xg_X0_47 0 ho rfl (pc := 116) dX0_addChange_116 rfl ?_
      refine s_iload_n (pc := 119) 2 dX0_addChange_119 rfl ?_
      refine s_dup2_11 (pc := 120) dX0_addChange_120 rfl rfl ?_
      refine xl_0_11 0 ho rfl (pc := 121) dX0_addChange_121 ?_
      refine s_iconst (v := 1) (pc := 122) dX0_addChange_122 (by decide) ?_
      refine s_iload_n (pc := 123) 1 dX0_addChange_123 rfl ?_
      refine s_ishl (pc := 124) dX0_addChange_124 ?_
      refine s_ior (pc := 125) dX0_addChange_125 ?_
      refine xs_0_11 (L' := fun s_15 => [(0, b0, f0, s_15)]) 0 ho rfl (fun _ => rfl) (pc := 126) dX0_addChange_126 (fun s_15 => ?_)
      refine s_goto (tgt := 187) (pc := 127) dX0_addChange_127 (by decide) ?_
      exact X0_addChange_j187_ok ho v1 v2 s_15
    · refine s_aload_n (pc := 130) 0 dX0_addChange_130 rfl ?_
      refine xg_X0_35 0 ho rfl (pc := 131) dX0_addChange_131 rfl ?_
      refine s_iload_n (pc := 134) 2 dX0_addChange_134 rfl ?_
      refine xl_0_7 0 ho rfl (pc := 135) dX0_addChange_135 ?_
      refine s_aload_n (pc := 136) 0 dX0_addChange_136 rfl ?_
      refine xg_X0_35 0 ho rfl (pc := 137) dX0_addChange_137 rfl ?_
      refine s_iload_n (pc := 140) 1 dX0_addChange_140 rfl ?_
      refine xl_0_7 0 ho rfl (pc := 141) dX0_addChange_141 ?_
      refine s_icmp_ne (tgt := 187) (pc := 142) dX0_addChange_142 (by decide) (fun _ => ?_) (fun _ => ?_)
      · refine s_aload_n (pc := 145) 0 dX0_addChange_145 rfl ?_
        refine xg_X0_25 0 ho rfl (pc := 146) dX0_addChange_146 rfl ?_
        refine s_iload_n (pc := 149) 2 dX0_addChange_149 rfl ?_
        refine xl_0_4 0 ho rfl (pc := 150) dX0_addChange_150 ?_
        refine s_aload_n (pc := 151) 0 dX0_addChange_151 rfl ?_
        refine xg_X0_25 0 ho rfl (pc := 152) dX0_addChange_152 rfl ?_
        refine s_iload_n (pc := 155) 1 dX0_addChange_155 rfl ?_
        refine xl_0_4 0 ho rfl (pc := 156) dX0_addChange_156 ?_
        refine s_callS (M := MX0_addChange) (As := [.int (s0.2.2.1 4 v2.toNatClampNeg), .int (s0.2.2.1 4 v1.toNatClampNeg)]) (st := []) (Ψ := fun (x : Bool) => (some (.int (b2i x)), xw [(0, b0, f0, s0)] h)) cs_X0_80 (by decide) (pc := 157) dX0_addChange_157 rfl (Nat.le_of_ble_eq_true rfl) (fun x hx => pX0_doClash_ok (s0.2.2.1 4 v2.toNatClampNeg) (s0.2.2.1 4 v1.toNatClampNeg) x hx) rfl (fun x12 _ => ?_)
        refine s_if_eqB (tgt := 187) (pc := 160) dX0_addChange_160 (by decide) (fun _ => ?_) (fun _ => ?_)
        · refine s_aload_n (pc := 163) 0 dX0_addChange_163 rfl ?_
          refine xg_X0_50 0 ho rfl (pc := 164) dX0_addChange_164 rfl ?_
          refine s_iload_n (pc := 167) 2 dX0_addChange_167 rfl ?_
          refine s_dup2_11 (pc := 168) dX0_addChange_168 rfl rfl ?_
          refine xl_0_12 0 ho rfl (pc := 169) dX0_addChange_169 ?_
          refine s_iconst (v := 1) (pc := 170) dX0_addChange_170 (by decide) ?_
          refine s_iload_n (pc := 171) 1 dX0_addChange_171 rfl ?_
          refine s_ishl (pc := 172) dX0_addChange_172 ?_
          refine s_ior (pc := 173) dX0_addChange_173 ?_
          refine xs_0_12 (L' := fun s_13 => [(0, b0, f0, s_13)]) 0 ho rfl (fun _ => rfl) (pc := 174) dX0_addChange_174 (fun s_13 => ?_)
          refine s_aload_n (pc := 175) 0 dX0_addChange_175 rfl ?_
          refine xg_X0_50 0 ho rfl (pc := 176) dX0_addChange_176 rfl ?_
          refine s_iload_n (pc := 179) 1 dX0_addChange_179 rfl ?_
          refine s_dup2_11 (pc := 180) dX0_addChange_180 rfl rfl ?_
          refine xl_0_12 0 ho rfl (pc := 181) dX0_addChange_181 ?_
          refine s_iconst (v := 1) (pc := 182) dX0_addChange_182 (by decide) ?_
          refine s_iload_n (pc := 183) 2 dX0_addChange_183 rfl ?_
          refine s_ishl (pc := 184) dX0_addChange_184 ?_
          refine s_ior (pc := 185) dX0_addChange_185 ?_
          refine xs_0_12 (L' := fun s_14 => [(0, b0, f0, s_14)]) 0 ho rfl (fun _ => rfl) (pc := 186) dX0_addChange_186 (fun s_14 => ?_)
          exact X0_addChange_j187_ok ho v1 v2 s_14
        · exact X0_addChange_j187_ok ho v1 v2 s0
      · exact X0_addChange_j187_ok ho v1 v2 s0
def X0_addChange_j215 (v1 : Int32) (s0 : RS) : Option RS :=
  thn (uI s0 1 (v1 + (1 : Int32))) fun s_17 =>
  some s_17
theorem X0_addChange_j215_ok (ho : xok [(0, b0)] h.2.1) (v1 : Int32) (s0 : RS) : aS l 1 MX0_addChange n0 S0 (oΦ (fun (x : RS) => (none, xw [(0, b0, f0, x)] h))) 215 [(0, .ref b0), (1, .int v1)] [] (xw [(0, b0, f0, s0)] h) (X0_addChange_j215 v1 s0) := by
  unfold X0_addChange_j215
  refine s_aload_n (pc := 215) 0 dX0_addChange_215 rfl ?_
  refine s_iload_n (pc := 216) 1 dX0_addChange_216 rfl ?_
  refine s_iconst (v := 1) (pc := 217) dX0_addChange_217 (by decide) ?_
  refine s_iadd (pc := 218) dX0_addChange_218 ?_
  refine xp_X0_15 (L' := fun s_17 => [(0, b0, f0, s_17)]) 0 ho rfl (fun _ => rfl) (pc := 219) dX0_addChange_219 rfl (fun s_17 => ?_)
  exact s_vret (pc := 222) dX0_addChange_222 rfl (fun _ _ q => q)
def pX0_addChange (s0 : RS) : Option RS :=
  thn (s0.1 1) fun x1 =>
  if x1 < (16 : Int32) then
    g_in x1 16 (
    g_in x1 16 (thn (uA s0 10 (upd (s0.2.2.1 10) x1.toNatClampNeg (s0.2.2.1 9 x1.toNatClampNeg))) fun s_2 =>
    g_in x1 16 (thn (uA s_2 8 (upd (s_2.2.2.1 8) x1.toNatClampNeg (0 : Int32))) fun s_3 =>
    (a_loop (fun (q : Int32 × RS) => X0_addChange_b33 x1 q.1 q.2) FU ((0 : Int32), s_3)).bind fun (t9 : RS) =>
      (a_loop (fun (q : Int32 × RS) => X0_addChange_b97 x1 q.1 q.2) FU ((0 : Int32), t9)).bind fun (t16 : RS) =>
        g_in x1 16 (
        if (t16.2.2.1 4 x1.toNatClampNeg) = (4 : Int32) then
          thn (uI t16 15 ((t16.1 15) ||| ((1 : Int32) <<< (x1 &&& 31)))) fun s_18 =>
          X0_addChange_j215 x1 s_18
        else
          X0_addChange_j215 x1 t16))))
  else
    some s0
theorem pX0_addChange_w (ho : xok [(0, b0)] h.2.1) (s0 : RS) : aS l 1 MX0_addChange n0 S0 (oΦ (fun (x : RS) => (none, xw [(0, b0, f0, x)] h))) 0 [(0, .ref b0)] [] (xw [(0, b0, f0, s0)] h) (pX0_addChange s0) := by
  unfold pX0_addChange
  refine s_aload_n (pc := 0) 0 dX0_addChange_0 rfl ?_
  refine xg_X0_15 0 ho rfl (pc := 1) dX0_addChange_1 rfl ?_
  refine s_istore_nT (lv' := fun x1 => [(1, .int x1), (0, .ref b0)]) (pc := 4) dX0_addChange_4 (by decide) (fun _ => rfl) (fun x1 => ?_)
  refine s_iload_n (pc := 5) 0 dX0_addChange_5 rfl ?_
  refine s_bipush (v := 16) (pc := 6) dX0_addChange_6 (by decide) ?_
  refine s_icmp_lt (tgt := 12) (pc := 8) dX0_addChange_8 (by decide) (fun _ => ?_) (fun _ => ?_)
  · refine s_aload_n (pc := 12) 1 dX0_addChange_12 rfl ?_
    refine xg_X0_44 0 ho rfl (pc := 13) dX0_addChange_13 rfl ?_
    refine s_iload_n (pc := 16) 0 dX0_addChange_16 rfl ?_
    refine s_aload_n (pc := 17) 1 dX0_addChange_17 rfl ?_
    refine xg_X0_41 0 ho rfl (pc := 18) dX0_addChange_18 rfl ?_
    refine s_iload_n (pc := 21) 0 dX0_addChange_21 rfl ?_
    refine xl_0_9 0 ho rfl (pc := 22) dX0_addChange_22 ?_
    refine xs_0_10 (L' := fun s_2 => [(0, b0, f0, s_2)]) 0 ho rfl (fun _ => rfl) (pc := 23) dX0_addChange_23 (fun s_2 => ?_)
    refine s_aload_n (pc := 24) 1 dX0_addChange_24 rfl ?_
    refine xg_X0_38 0 ho rfl (pc := 25) dX0_addChange_25 rfl ?_
    refine s_iload_n (pc := 28) 0 dX0_addChange_28 rfl ?_
    refine s_iconst (v := 0) (pc := 29) dX0_addChange_29 (by decide) ?_
    refine xs_0_8 (L' := fun s_3 => [(0, b0, f0, s_3)]) 0 ho rfl (fun _ => rfl) (pc := 30) dX0_addChange_30 (fun s_3 => ?_)
    refine s_iconst (v := 0) (pc := 31) dX0_addChange_31 (by decide) ?_
    refine s_istore_n (lv' := [(2, .int 0), (1, .int x1), (0, .ref b0)]) (pc := 32) dX0_addChange_32 (by decide) rfl ?_
    refine s_bind (Ψ := X0_addChange_x33 l n0 S0 h b0 f0 x1) ?_ ?_
    · refine s_sub [2, 1, 0] rfl ?_
      exact s_loop (lvf := fun (q : Int32 × RS) => [(0, .ref b0), (1, .int x1), (2, .int q.1)]) (stf := fun _ => []) (hf := fun (q : Int32 × RS) => xw [(0, b0, f0, q.2)] h) (fun q => X0_addChange_b33_ok ho x1 q.1 q.2) FU ((0 : Int32), s_3)
    · intro t9 z r h' hz hr
      refine (?_ : aS l 1 MX0_addChange n0 S0 (oΦ (fun (x : RS) => (none, xw [(0, b0, f0, x)] h))) 95 [(0, .ref b0), (1, .int x1)] [] (xw [(0, b0, f0, t9)] h) _) z hz r h' hr
      refine s_iconst (v := 0) (pc := 95) dX0_addChange_95 (by decide) ?_
      refine s_istore_n (lv' := [(2, .int 0), (0, .ref b0), (1, .int x1)]) (pc := 96) dX0_addChange_96 (by decide) rfl ?_
      refine s_bind (Ψ := X0_addChange_x97 l n0 S0 h b0 f0 x1) ?_ ?_
      · refine s_sub [1, 2, 0] rfl ?_
        exact s_loop (lvf := fun (q : Int32 × RS) => [(0, .ref b0), (1, .int x1), (2, .int q.1)]) (stf := fun _ => []) (hf := fun (q : Int32 × RS) => xw [(0, b0, f0, q.2)] h) (fun q => X0_addChange_b97_ok ho x1 q.1 q.2) FU ((0 : Int32), t9)
      · intro t16 z r h' hz hr
        refine (?_ : aS l 1 MX0_addChange n0 S0 (oΦ (fun (x : RS) => (none, xw [(0, b0, f0, x)] h))) 193 [(0, .ref b0), (1, .int x1)] [] (xw [(0, b0, f0, t16)] h) _) z hz r h' hr
        refine s_aload_n (pc := 193) 0 dX0_addChange_193 rfl ?_
        refine xg_X0_25 0 ho rfl (pc := 194) dX0_addChange_194 rfl ?_
        refine s_iload_n (pc := 197) 1 dX0_addChange_197 rfl ?_
        refine xl_0_4 0 ho rfl (pc := 198) dX0_addChange_198 ?_
        refine s_iconst (v := 4) (pc := 199) dX0_addChange_199 (by decide) ?_
        refine s_icmp_ne (tgt := 215) (pc := 200) dX0_addChange_200 (by decide) (fun _ => ?_) (fun _ => ?_)
        · refine s_aload_n (pc := 203) 0 dX0_addChange_203 rfl ?_
          refine s_dup (pc := 204) dX0_addChange_204 rfl ?_
          refine xg_X0_59 0 ho rfl (pc := 205) dX0_addChange_205 rfl ?_
          refine s_iconst (v := 1) (pc := 208) dX0_addChange_208 (by decide) ?_
          refine s_iload_n (pc := 209) 1 dX0_addChange_209 rfl ?_
          refine s_ishl (pc := 210) dX0_addChange_210 ?_
          refine s_ior (pc := 211) dX0_addChange_211 ?_
          refine xp_X0_59 (L' := fun s_18 => [(0, b0, f0, s_18)]) 0 ho rfl (fun _ => rfl) (pc := 212) dX0_addChange_212 rfl (fun s_18 => ?_)
          exact X0_addChange_j215_ok ho x1 s_18
        · exact X0_addChange_j215_ok ho x1 t16
  · exact s_vret (pc := 11) dX0_addChange_11 rfl (fun _ _ q => q)
theorem pX0_addChange_ok (ho : xok [(0, b0)] h.2.1) (s0 : RS) : ∀ x, pX0_addChange s0 = some x → aMet l 1 yX0_addChange cX0_addChange 3 none [.ref b0] (xw [(0, b0, f0, s0)] h) none (xw [(0, b0, f0, x)] h) := fun x hx => a_meth (ini := false) (y := yX0_addChange) (by decide +kernel) (fun q => by cases q) (fun _ => Nat.le_of_ble_eq_true rfl) (pX0_addChange_w ho s0) x hx _ _ ⟨rfl, rfl⟩
end
section
variable {l : Launch} {n0 S0 : Nat} {h : aH} {b0 : Nat} {f0 : Nat → Option Nat}
abbrev MX0_allOfKind : aM := (cX0_allOfKind, RX0, 4, (some .int), false)
def X0_allOfKind_x4 (l : Launch) (n0 S0 : Nat) (h : aH) (b0 : Nat) (f0 : Nat → Option Nat) (v1 : Int32) (s0 : RS) : Int32 → Option Value → aH → Prop := fun (x : Int32) r h' => aEv l 0 MX0_allOfKind n0 S0 34 [(2, .int x)] [] (xw [(0, b0, f0, s0)] h) r h'
def X0_allOfKind_j28 (v1 : Int32) (v2 : Int32) (v3 : Int32) (s0 : RS) : Option ((Int32 × Int32) ⊕ Int32) :=
  thn (v3 + 1) fun x1 =>
  some (.inl (v2, x1))
theorem X0_allOfKind_j28_ok (ho : xok [(0, b0)] h.2.1) (v1 : Int32) (v2 : Int32) (v3 : Int32) (s0 : RS) : aS l 0 MX0_allOfKind n0 S0 (a_LΦ (X0_allOfKind_x4 l n0 S0 h b0 f0 v1 s0) l 0 MX0_allOfKind n0 S0 4 (fun (q : Int32 × Int32) => [(0, .ref b0), (1, .int v1), (2, .int q.1), (3, .int q.2)]) (fun _ => []) (fun (q : Int32 × Int32) => xw [(0, b0, f0, s0)] h)) 28 [(0, .ref b0), (1, .int v1), (2, .int v2), (3, .int v3)] [] (xw [(0, b0, f0, s0)] h) (X0_allOfKind_j28 v1 v2 v3 s0) := by
  unfold X0_allOfKind_j28
  refine s_iincT (pc := 28) 3 (lv' := fun x1 => [(3, .int x1), (0, .ref b0), (1, .int v1), (2, .int v2)]) dX0_allOfKind_28 rfl rfl (by decide) (fun _ => rfl) (fun x1 => ?_)
  refine s_goto (tgt := 4) (pc := 31) dX0_allOfKind_31 (by decide) ?_
  refine s_sub [1, 2, 3, 0] rfl ?_
  exact s_ev (fun _ _ q => q)
def X0_allOfKind_b4 (v1 : Int32) (v2 : Int32) (v3 : Int32) (s0 : RS) : Option ((Int32 × Int32) ⊕ Int32) :=
  if (s0.1 1) ≤ v3 then
    some (.inr v2)
  else
    g_in v3 16 (
    if (s0.2.2.1 4 v3.toNatClampNeg) = v1 then
      thn (v2 ||| ((1 : Int32) <<< (v3 &&& 31))) fun x2 =>
      X0_allOfKind_j28 v1 x2 v3 s0
    else
      X0_allOfKind_j28 v1 v2 v3 s0)
theorem X0_allOfKind_b4_ok (ho : xok [(0, b0)] h.2.1) (v1 : Int32) (v2 : Int32) (v3 : Int32) (s0 : RS) : aS l 0 MX0_allOfKind n0 S0 (a_LΦ (X0_allOfKind_x4 l n0 S0 h b0 f0 v1 s0) l 0 MX0_allOfKind n0 S0 4 (fun (q : Int32 × Int32) => [(0, .ref b0), (1, .int v1), (2, .int q.1), (3, .int q.2)]) (fun _ => []) (fun (q : Int32 × Int32) => xw [(0, b0, f0, s0)] h)) 4 [(0, .ref b0), (1, .int v1), (2, .int v2), (3, .int v3)] [] (xw [(0, b0, f0, s0)] h) (X0_allOfKind_b4 v1 v2 v3 s0) := by
  unfold X0_allOfKind_b4
  refine s_iload_n (pc := 4) 3 dX0_allOfKind_4 rfl ?_
  refine s_aload_n (pc := 5) 0 dX0_allOfKind_5 rfl ?_
  refine xg_X0_15 0 ho rfl (pc := 6) dX0_allOfKind_6 rfl ?_
  refine s_icmp_ge (tgt := 34) (pc := 9) dX0_allOfKind_9 (by decide) (fun _ => ?_) (fun _ => ?_)
  · refine s_sub [2] rfl ?_
    exact s_ev (fun _ _ q => q)
  · refine s_aload_n (pc := 12) 0 dX0_allOfKind_12 rfl ?_
    refine xg_X0_25 0 ho rfl (pc := 13) dX0_allOfKind_13 rfl ?_
    refine s_iload_n (pc := 16) 3 dX0_allOfKind_16 rfl ?_
    refine xl_0_4 0 ho rfl (pc := 17) dX0_allOfKind_17 ?_
    refine s_iload_n (pc := 18) 1 dX0_allOfKind_18 rfl ?_
    refine s_icmp_ne (tgt := 28) (pc := 19) dX0_allOfKind_19 (by decide) (fun _ => ?_) (fun _ => ?_)
    · refine s_iload_n (pc := 22) 2 dX0_allOfKind_22 rfl ?_
      refine s_iconst (v := 1) (pc := 23) dX0_allOfKind_23 (by decide) ?_
      refine s_iload_n (pc := 24) 3 dX0_allOfKind_24 rfl ?_
      refine s_ishl (pc := 25) dX0_allOfKind_25 ?_
      refine s_ior (pc := 26) dX0_allOfKind_26 ?_
      refine s_istore_nT (lv' := fun x2 => [(2, .int x2), (0, .ref b0), (1, .int v1), (3, .int v3)]) (pc := 27) dX0_allOfKind_27 (by decide) (fun _ => rfl) (fun x2 => ?_)
      refine s_sub [1, 2, 0, 3] rfl ?_
      exact X0_allOfKind_j28_ok ho v1 x2 v3 s0
    · exact X0_allOfKind_j28_ok ho v1 v2 v3 s0
def pX0_allOfKind (s0 : RS) (a0 : Int32) : Option Int32 :=
  (a_loop (fun (q : Int32 × Int32) => X0_allOfKind_b4 a0 q.1 q.2 s0) FU ((0 : Int32), (0 : Int32))).bind fun (t3 : Int32) =>
    some t3
theorem pX0_allOfKind_w (ho : xok [(0, b0)] h.2.1) (s0 : RS) (a0 : Int32) : aS l 0 MX0_allOfKind n0 S0 (oΦ (fun (x : Int32) => ((some (.int x)), xw [(0, b0, f0, s0)] h))) 0 [(0, .ref b0), (1, .int a0)] [] (xw [(0, b0, f0, s0)] h) (pX0_allOfKind s0 a0) := by
  unfold pX0_allOfKind
  refine s_iconst (v := 0) (pc := 0) dX0_allOfKind_0 (by decide) ?_
  refine s_istore_n (lv' := [(2, .int 0), (0, .ref b0), (1, .int a0)]) (pc := 1) dX0_allOfKind_1 (by decide) rfl ?_
  refine s_iconst (v := 0) (pc := 2) dX0_allOfKind_2 (by decide) ?_
  refine s_istore_n (lv' := [(3, .int 0), (2, .int 0), (0, .ref b0), (1, .int a0)]) (pc := 3) dX0_allOfKind_3 (by decide) rfl ?_
  refine s_bind (Ψ := X0_allOfKind_x4 l n0 S0 h b0 f0 a0 s0) ?_ ?_
  · refine s_sub [2, 3, 1, 0] rfl ?_
    exact s_loop (lvf := fun (q : Int32 × Int32) => [(0, .ref b0), (1, .int a0), (2, .int q.1), (3, .int q.2)]) (stf := fun _ => []) (hf := fun (q : Int32 × Int32) => xw [(0, b0, f0, s0)] h) (fun q => X0_allOfKind_b4_ok ho a0 q.1 q.2 s0) FU ((0 : Int32), (0 : Int32))
  · intro t3 z r h' hz hr
    refine (?_ : aS l 0 MX0_allOfKind n0 S0 (oΦ (fun (x : Int32) => ((some (.int x)), xw [(0, b0, f0, s0)] h))) 34 [(2, .int t3)] [] (xw [(0, b0, f0, s0)] h) _) z hz r h' hr
    refine s_iload_n (pc := 34) 0 dX0_allOfKind_34 rfl ?_
    exact s_iret (pc := 35) dX0_allOfKind_35 rfl (fun _ _ q => q)
theorem pX0_allOfKind_ok (ho : xok [(0, b0)] h.2.1) (s0 : RS) (a0 : Int32) : ∀ x, pX0_allOfKind s0 a0 = some x → aMet l 0 yX0_allOfKind cX0_allOfKind 4 (some .int) [.ref b0, .int a0] (xw [(0, b0, f0, s0)] h) (some (.int x)) (xw [(0, b0, f0, s0)] h) := fun x hx => a_meth (ini := false) (y := yX0_allOfKind) (by decide +kernel) (fun q => by cases q) (fun _ => Nat.le_of_ble_eq_true rfl) (pX0_allOfKind_w ho s0 a0) x hx _ _ ⟨rfl, rfl⟩
end
section
variable {l : Launch} {n0 S0 : Nat} {h : aH}
abbrev MJ6_bitCount_0f7a4 : aM := (cJ6_bitCount_0f7a4, RJ6, 1, (some .int), false)
def pJ6_bitCount_0f7a4 (a0 : Int32) : Option Int32 :=
  thn (a0 - (((a0.toUInt32 >>> ((1 : Int32).toUInt32 &&& Int32.toUInt32 31)).toInt32) &&& (1431655765 : Int32))) fun x1 =>
  thn ((x1 &&& (858993459 : Int32)) + (((x1.toUInt32 >>> ((2 : Int32).toUInt32 &&& Int32.toUInt32 31)).toInt32) &&& (858993459 : Int32))) fun x2 =>
  thn ((x2 + ((x2.toUInt32 >>> ((4 : Int32).toUInt32 &&& Int32.toUInt32 31)).toInt32)) &&& (252645135 : Int32)) fun x3 =>
  thn (x3 + ((x3.toUInt32 >>> ((8 : Int32).toUInt32 &&& Int32.toUInt32 31)).toInt32)) fun x4 =>
  thn (x4 + ((x4.toUInt32 >>> ((16 : Int32).toUInt32 &&& Int32.toUInt32 31)).toInt32)) fun x5 =>
  some (x5 &&& (63 : Int32))
theorem pJ6_bitCount_0f7a4_w (a0 : Int32) : aS l 0 MJ6_bitCount_0f7a4 n0 S0 (oΦ (fun (x : Int32) => ((some (.int x)), h))) 0 [(0, .int a0)] [] (h) (pJ6_bitCount_0f7a4 a0) := by
  unfold pJ6_bitCount_0f7a4
  refine s_iload_n (pc := 0) 0 dJ6_bitCount_0f7a4_0 rfl ?_
  refine s_iload_n (pc := 1) 0 dJ6_bitCount_0f7a4_1 rfl ?_
  refine s_iconst (v := 1) (pc := 2) dJ6_bitCount_0f7a4_2 (by decide) ?_
  refine s_iushr (pc := 3) dJ6_bitCount_0f7a4_3 ?_
  refine s_ldcw (v := 1431655765) (pc := 4) dJ6_bitCount_0f7a4_4 wk_J6_265 ?_
  refine s_iand (pc := 7) dJ6_bitCount_0f7a4_7 ?_
  refine s_isub (pc := 8) dJ6_bitCount_0f7a4_8 ?_
  refine s_istore_nT (lv' := fun x1 => [(0, .int x1)]) (pc := 9) dJ6_bitCount_0f7a4_9 (by decide) (fun _ => rfl) (fun x1 => ?_)
  refine s_iload_n (pc := 10) 0 dJ6_bitCount_0f7a4_10 rfl ?_
  refine s_ldcw (v := 858993459) (pc := 11) dJ6_bitCount_0f7a4_11 wk_J6_266 ?_
  refine s_iand (pc := 14) dJ6_bitCount_0f7a4_14 ?_
  refine s_iload_n (pc := 15) 0 dJ6_bitCount_0f7a4_15 rfl ?_
  refine s_iconst (v := 2) (pc := 16) dJ6_bitCount_0f7a4_16 (by decide) ?_
  refine s_iushr (pc := 17) dJ6_bitCount_0f7a4_17 ?_
  refine s_ldcw (v := 858993459) (pc := 18) dJ6_bitCount_0f7a4_18 wk_J6_266 ?_
  refine s_iand (pc := 21) dJ6_bitCount_0f7a4_21 ?_
  refine s_iadd (pc := 22) dJ6_bitCount_0f7a4_22 ?_
  refine s_istore_nT (lv' := fun x2 => [(0, .int x2)]) (pc := 23) dJ6_bitCount_0f7a4_23 (by decide) (fun _ => rfl) (fun x2 => ?_)
  refine s_iload_n (pc := 24) 0 dJ6_bitCount_0f7a4_24 rfl ?_
  refine s_iload_n (pc := 25) 0 dJ6_bitCount_0f7a4_25 rfl ?_
  refine s_iconst (v := 4) (pc := 26) dJ6_bitCount_0f7a4_26 (by decide) ?_
  refine s_iushr (pc := 27) dJ6_bitCount_0f7a4_27 ?_
  refine s_iadd (pc := 28) dJ6_bitCount_0f7a4_28 ?_
  refine s_ldcw (v := 252645135) (pc := 29) dJ6_bitCount_0f7a4_29 wk_J6_267 ?_
  refine s_iand (pc := 32) dJ6_bitCount_0f7a4_32 ?_
  refine s_istore_nT (lv' := fun x3 => [(0, .int x3)]) (pc := 33) dJ6_bitCount_0f7a4_33 (by decide) (fun _ => rfl) (fun x3 => ?_)
  refine s_iload_n (pc := 34) 0 dJ6_bitCount_0f7a4_34 rfl ?_
  refine s_iload_n (pc := 35) 0 dJ6_bitCount_0f7a4_35 rfl ?_
  refine s_bipush (v := 8) (pc := 36) dJ6_bitCount_0f7a4_36 (by decide) ?_
  refine s_iushr (pc := 38) dJ6_bitCount_0f7a4_38 ?_
  refine s_iadd (pc := 39) dJ6_bitCount_0f7a4_39 ?_
  refine s_istore_nT (lv' := fun x4 => [(0, .int x4)]) (pc := 40) dJ6_bitCount_0f7a4_40 (by decide) (fun _ => rfl) (fun x4 => ?_)
  refine s_iload_n (pc := 41) 0 dJ6_bitCount_0f7a4_41 rfl ?_
  refine s_iload_n (pc := 42) 0 dJ6_bitCount_0f7a4_42 rfl ?_
  refine s_bipush (v := 16) (pc := 43) dJ6_bitCount_0f7a4_43 (by decide) ?_
  refine s_iushr (pc := 45) dJ6_bitCount_0f7a4_45 ?_
  refine s_iadd (pc := 46) dJ6_bitCount_0f7a4_46 ?_
  refine s_istore_nT (lv' := fun x5 => [(0, .int x5)]) (pc := 47) dJ6_bitCount_0f7a4_47 (by decide) (fun _ => rfl) (fun x5 => ?_)
  refine s_iload_n (pc := 48) 0 dJ6_bitCount_0f7a4_48 rfl ?_
  refine s_bipush (v := 63) (pc := 49) dJ6_bitCount_0f7a4_49 (by decide) ?_
  refine s_iand (pc := 51) dJ6_bitCount_0f7a4_51 ?_
  exact s_iret (pc := 52) dJ6_bitCount_0f7a4_52 rfl (fun _ _ q => q)
theorem pJ6_bitCount_0f7a4_ok (a0 : Int32) : ∀ x, pJ6_bitCount_0f7a4 a0 = some x → aMet l 0 yJ6_bitCount_0f7a4 cJ6_bitCount_0f7a4 1 (some .int) [.int a0] (h) (some (.int x)) (h) := fun x hx => a_methF (ini := false) (y := yJ6_bitCount_0f7a4) (by decide +kernel) (fun q => by cases q) (fun _ => Nat.le_of_ble_eq_true rfl) (pJ6_bitCount_0f7a4_w a0) x hx _ _ ⟨rfl, rfl⟩
end
section
variable {l : Launch} {n0 S0 : Nat} {h : aH} {b0 : Nat} {f0 : Nat → Option Nat}
abbrev MX0_countFoes : aM := (cX0_countFoes, RX0, 3, (some .int), false)
def X0_countFoes_x4 (l : Launch) (n0 S0 : Nat) (h : aH) (b0 : Nat) (f0 : Nat → Option Nat) (s0 : RS) : Int32 → Option Value → aH → Prop := fun (x : Int32) r h' => aEv l 1 MX0_countFoes n0 S0 30 [(1, .int x)] [] (xw [(0, b0, f0, s0)] h) r h'
def X0_countFoes_b4 (v1 : Int32) (v2 : Int32) (s0 : RS) : Option ((Int32 × Int32) ⊕ Int32) :=
  if (s0.1 1) ≤ v2 then
    some (.inr v1)
  else
    g_in v2 16 (
    (pJ6_bitCount_0f7a4 (s0.2.2.1 12 v2.toNatClampNeg)).bind fun x1 =>
    thn (v1 + x1) fun x2 =>
    thn (v2 + 1) fun x3 =>
    some (.inl (x2, x3)))
theorem X0_countFoes_b4_ok (ho : xok [(0, b0)] h.2.1) (v1 : Int32) (v2 : Int32) (s0 : RS) : aS l 1 MX0_countFoes n0 S0 (a_LΦ (X0_countFoes_x4 l n0 S0 h b0 f0 s0) l 1 MX0_countFoes n0 S0 4 (fun (q : Int32 × Int32) => [(0, .ref b0), (1, .int q.1), (2, .int q.2)]) (fun _ => []) (fun (q : Int32 × Int32) => xw [(0, b0, f0, s0)] h)) 4 [(0, .ref b0), (1, .int v1), (2, .int v2)] [] (xw [(0, b0, f0, s0)] h) (X0_countFoes_b4 v1 v2 s0) := by
  unfold X0_countFoes_b4
  refine s_iload_n (pc := 4) 2 dX0_countFoes_4 rfl ?_
  refine s_aload_n (pc := 5) 0 dX0_countFoes_5 rfl ?_
  refine xg_X0_15 0 ho rfl (pc := 6) dX0_countFoes_6 rfl ?_
  refine s_icmp_ge (tgt := 30) (pc := 9) dX0_countFoes_9 (by decide) (fun _ => ?_) (fun _ => ?_)
  · refine s_sub [1] rfl ?_
    exact s_ev (fun _ _ q => q)
  · refine s_iload_n (pc := 12) 1 dX0_countFoes_12 rfl ?_
    refine s_aload_n (pc := 13) 0 dX0_countFoes_13 rfl ?_
    refine xg_X0_50 0 ho rfl (pc := 14) dX0_countFoes_14 rfl ?_
    refine s_iload_n (pc := 17) 2 dX0_countFoes_17 rfl ?_
    refine xl_0_12 0 ho rfl (pc := 18) dX0_countFoes_18 ?_
    refine s_callS (M := MX0_countFoes) (As := [.int (s0.2.2.1 12 v2.toNatClampNeg)]) (st := [.int v1]) (Ψ := fun (x : Int32) => (some (.int x), xw [(0, b0, f0, s0)] h)) cs_X0_83 (by decide) (pc := 19) dX0_countFoes_19 rfl (Nat.le_of_ble_eq_true rfl) (fun x hx => pJ6_bitCount_0f7a4_ok (s0.2.2.1 12 v2.toNatClampNeg) x hx) rfl (fun x1 _ => ?_)
    refine s_iadd (pc := 22) dX0_countFoes_22 ?_
    refine s_istore_nT (lv' := fun x2 => [(1, .int x2), (0, .ref b0), (2, .int v2)]) (pc := 23) dX0_countFoes_23 (by decide) (fun _ => rfl) (fun x2 => ?_)
    refine s_iincT (pc := 24) 2 (lv' := fun x3 => [(2, .int x3), (1, .int x2), (0, .ref b0)]) dX0_countFoes_24 rfl rfl (by decide) (fun _ => rfl) (fun x3 => ?_)
    refine s_goto (tgt := 4) (pc := 27) dX0_countFoes_27 (by decide) ?_
    refine s_sub [2, 1, 0] rfl ?_
    exact s_ev (fun _ _ q => q)
def pX0_countFoes (s0 : RS) : Option Int32 :=
  (a_loop (fun (q : Int32 × Int32) => X0_countFoes_b4 q.1 q.2 s0) FU ((0 : Int32), (0 : Int32))).bind fun (t4 : Int32) =>
    some (t4 / (2 : Int32))
theorem pX0_countFoes_w (ho : xok [(0, b0)] h.2.1) (s0 : RS) : aS l 1 MX0_countFoes n0 S0 (oΦ (fun (x : Int32) => ((some (.int x)), xw [(0, b0, f0, s0)] h))) 0 [(0, .ref b0)] [] (xw [(0, b0, f0, s0)] h) (pX0_countFoes s0) := by
  unfold pX0_countFoes
  refine s_iconst (v := 0) (pc := 0) dX0_countFoes_0 (by decide) ?_
  refine s_istore_n (lv' := [(1, .int 0), (0, .ref b0)]) (pc := 1) dX0_countFoes_1 (by decide) rfl ?_
  refine s_iconst (v := 0) (pc := 2) dX0_countFoes_2 (by decide) ?_
  refine s_istore_n (lv' := [(2, .int 0), (1, .int 0), (0, .ref b0)]) (pc := 3) dX0_countFoes_3 (by decide) rfl ?_
  refine s_bind (Ψ := X0_countFoes_x4 l n0 S0 h b0 f0 s0) ?_ ?_
  · refine s_sub [2, 1, 0] rfl ?_
    exact s_loop (lvf := fun (q : Int32 × Int32) => [(0, .ref b0), (1, .int q.1), (2, .int q.2)]) (stf := fun _ => []) (hf := fun (q : Int32 × Int32) => xw [(0, b0, f0, s0)] h) (fun q => X0_countFoes_b4_ok ho q.1 q.2 s0) FU ((0 : Int32), (0 : Int32))
  · intro t4 z r h' hz hr
    refine (?_ : aS l 1 MX0_countFoes n0 S0 (oΦ (fun (x : Int32) => ((some (.int x)), xw [(0, b0, f0, s0)] h))) 30 [(1, .int t4)] [] (xw [(0, b0, f0, s0)] h) _) z hz r h' hr
    refine s_iload_n (pc := 30) 0 dX0_countFoes_30 rfl ?_
    refine s_iconst (v := 2) (pc := 31) dX0_countFoes_31 (by decide) ?_
    refine s_idivC (pc := 32) dX0_countFoes_32 (by decide) ?_
    exact s_iret (pc := 33) dX0_countFoes_33 rfl (fun _ _ q => q)
theorem pX0_countFoes_ok (ho : xok [(0, b0)] h.2.1) (s0 : RS) : ∀ x, pX0_countFoes s0 = some x → aMet l 1 yX0_countFoes cX0_countFoes 3 (some .int) [.ref b0] (xw [(0, b0, f0, s0)] h) (some (.int x)) (xw [(0, b0, f0, s0)] h) := fun x hx => a_meth (ini := false) (y := yX0_countFoes) (by decide +kernel) (fun q => by cases q) (fun _ => Nat.le_of_ble_eq_true rfl) (pX0_countFoes_w ho s0) x hx _ _ ⟨rfl, rfl⟩
end
section
variable {l : Launch} {n0 S0 : Nat} {h : aH} {b0 : Nat} {f0 : Nat → Option Nat}
abbrev MX0_missingFrom : aM := (cX0_missingFrom, RX0, 4, (some .int), false)
def X0_missingFrom_x4 (l : Launch) (n0 S0 : Nat) (h : aH) (b0 : Nat) (f0 : Nat → Option Nat) (v1 : Int32) (s0 : RS) : Int32 → Option Value → aH → Prop := fun (x : Int32) r h' => aEv l 1 MX0_missingFrom n0 S0 35 [(1, .int v1), (2, .int x)] [] (xw [(0, b0, f0, s0)] h) r h'
def X0_missingFrom_j29 (v1 : Int32) (v2 : Int32) (v3 : Int32) (s0 : RS) : Option ((Int32 × Int32) ⊕ Int32) :=
  thn (v3 + 1) fun x2 =>
  some (.inl (v2, x2))
theorem X0_missingFrom_j29_ok (ho : xok [(0, b0)] h.2.1) (v1 : Int32) (v2 : Int32) (v3 : Int32) (s0 : RS) : aS l 1 MX0_missingFrom n0 S0 (a_LΦ (X0_missingFrom_x4 l n0 S0 h b0 f0 v1 s0) l 1 MX0_missingFrom n0 S0 4 (fun (q : Int32 × Int32) => [(0, .ref b0), (1, .int v1), (2, .int q.1), (3, .int q.2)]) (fun _ => []) (fun (q : Int32 × Int32) => xw [(0, b0, f0, s0)] h)) 29 [(0, .ref b0), (1, .int v1), (2, .int v2), (3, .int v3)] [] (xw [(0, b0, f0, s0)] h) (X0_missingFrom_j29 v1 v2 v3 s0) := by
  unfold X0_missingFrom_j29
  refine s_iincT (pc := 29) 3 (lv' := fun x2 => [(3, .int x2), (0, .ref b0), (1, .int v1), (2, .int v2)]) dX0_missingFrom_29 rfl rfl (by decide) (fun _ => rfl) (fun x2 => ?_)
  refine s_goto (tgt := 4) (pc := 32) dX0_missingFrom_32 (by decide) ?_
  refine s_sub [1, 2, 3, 0] rfl ?_
  exact s_ev (fun _ _ q => q)
def X0_missingFrom_b4 (v1 : Int32) (v2 : Int32) (v3 : Int32) (s0 : RS) : Option ((Int32 × Int32) ⊕ Int32) :=
  if (s0.1 1) ≤ v3 then
    some (.inr v2)
  else
    (pX0_isIn v1 v3).bind fun x1 =>
    if x1 = true then
      g_in v3 16 (
      thn (v2 ||| (s0.2.2.1 10 v3.toNatClampNeg)) fun x3 =>
      X0_missingFrom_j29 v1 x3 v3 s0)
    else
      X0_missingFrom_j29 v1 v2 v3 s0
theorem X0_missingFrom_b4_ok (ho : xok [(0, b0)] h.2.1) (v1 : Int32) (v2 : Int32) (v3 : Int32) (s0 : RS) : aS l 1 MX0_missingFrom n0 S0 (a_LΦ (X0_missingFrom_x4 l n0 S0 h b0 f0 v1 s0) l 1 MX0_missingFrom n0 S0 4 (fun (q : Int32 × Int32) => [(0, .ref b0), (1, .int v1), (2, .int q.1), (3, .int q.2)]) (fun _ => []) (fun (q : Int32 × Int32) => xw [(0, b0, f0, s0)] h)) 4 [(0, .ref b0), (1, .int v1), (2, .int v2), (3, .int v3)] [] (xw [(0, b0, f0, s0)] h) (X0_missingFrom_b4 v1 v2 v3 s0) := by
  unfold X0_missingFrom_b4
  refine s_iload_n (pc := 4) 3 dX0_missingFrom_4 rfl ?_
  refine s_aload_n (pc := 5) 0 dX0_missingFrom_5 rfl ?_
  refine xg_X0_15 0 ho rfl (pc := 6) dX0_missingFrom_6 rfl ?_
  refine s_icmp_ge (tgt := 35) (pc := 9) dX0_missingFrom_9 (by decide) (fun _ => ?_) (fun _ => ?_)
  · refine s_sub [1, 2] rfl ?_
    exact s_ev (fun _ _ q => q)
  · refine s_iload_n (pc := 12) 1 dX0_missingFrom_12 rfl ?_
    refine s_iload_n (pc := 13) 3 dX0_missingFrom_13 rfl ?_
    refine s_callS (M := MX0_missingFrom) (As := [.int v1, .int v3]) (st := []) (Ψ := fun (x : Bool) => (some (.int (b2i x)), xw [(0, b0, f0, s0)] h)) cs_X0_70 (by decide) (pc := 14) dX0_missingFrom_14 rfl (Nat.le_of_ble_eq_true rfl) (fun x hx => pX0_isIn_ok v1 v3 x hx) rfl (fun x1 _ => ?_)
    refine s_if_eqB (tgt := 29) (pc := 17) dX0_missingFrom_17 (by decide) (fun _ => ?_) (fun _ => ?_)
    · refine s_iload_n (pc := 20) 2 dX0_missingFrom_20 rfl ?_
      refine s_aload_n (pc := 21) 0 dX0_missingFrom_21 rfl ?_
      refine xg_X0_44 0 ho rfl (pc := 22) dX0_missingFrom_22 rfl ?_
      refine s_iload_n (pc := 25) 3 dX0_missingFrom_25 rfl ?_
      refine xl_0_10 0 ho rfl (pc := 26) dX0_missingFrom_26 ?_
      refine s_ior (pc := 27) dX0_missingFrom_27 ?_
      refine s_istore_nT (lv' := fun x3 => [(2, .int x3), (0, .ref b0), (1, .int v1), (3, .int v3)]) (pc := 28) dX0_missingFrom_28 (by decide) (fun _ => rfl) (fun x3 => ?_)
      refine s_sub [1, 2, 0, 3] rfl ?_
      exact X0_missingFrom_j29_ok ho v1 x3 v3 s0
    · exact X0_missingFrom_j29_ok ho v1 v2 v3 s0
def pX0_missingFrom (s0 : RS) (a0 : Int32) : Option Int32 :=
  (a_loop (fun (q : Int32 × Int32) => X0_missingFrom_b4 a0 q.1 q.2 s0) FU ((0 : Int32), (0 : Int32))).bind fun (t4 : Int32) =>
    some (t4 &&& (a0 ^^^ (-1 : Int32)))
theorem pX0_missingFrom_w (ho : xok [(0, b0)] h.2.1) (s0 : RS) (a0 : Int32) : aS l 1 MX0_missingFrom n0 S0 (oΦ (fun (x : Int32) => ((some (.int x)), xw [(0, b0, f0, s0)] h))) 0 [(0, .ref b0), (1, .int a0)] [] (xw [(0, b0, f0, s0)] h) (pX0_missingFrom s0 a0) := by
  unfold pX0_missingFrom
  refine s_iconst (v := 0) (pc := 0) dX0_missingFrom_0 (by decide) ?_
  refine s_istore_n (lv' := [(2, .int 0), (0, .ref b0), (1, .int a0)]) (pc := 1) dX0_missingFrom_1 (by decide) rfl ?_
  refine s_iconst (v := 0) (pc := 2) dX0_missingFrom_2 (by decide) ?_
  refine s_istore_n (lv' := [(3, .int 0), (2, .int 0), (0, .ref b0), (1, .int a0)]) (pc := 3) dX0_missingFrom_3 (by decide) rfl ?_
  refine s_bind (Ψ := X0_missingFrom_x4 l n0 S0 h b0 f0 a0 s0) ?_ ?_
  · refine s_sub [2, 3, 1, 0] rfl ?_
    exact s_loop (lvf := fun (q : Int32 × Int32) => [(0, .ref b0), (1, .int a0), (2, .int q.1), (3, .int q.2)]) (stf := fun _ => []) (hf := fun (q : Int32 × Int32) => xw [(0, b0, f0, s0)] h) (fun q => X0_missingFrom_b4_ok ho a0 q.1 q.2 s0) FU ((0 : Int32), (0 : Int32))
  · intro t4 z r h' hz hr
    refine (?_ : aS l 1 MX0_missingFrom n0 S0 (oΦ (fun (x : Int32) => ((some (.int x)), xw [(0, b0, f0, s0)] h))) 35 [(1, .int a0), (2, .int t4)] [] (xw [(0, b0, f0, s0)] h) _) z hz r h' hr
    refine s_iload_n (pc := 35) 1 dX0_missingFrom_35 rfl ?_
    refine s_iload_n (pc := 36) 0 dX0_missingFrom_36 rfl ?_
    refine s_iconst (v := (-1)) (pc := 37) dX0_missingFrom_37 (by decide) ?_
    refine s_ixor (pc := 38) dX0_missingFrom_38 ?_
    refine s_iand (pc := 39) dX0_missingFrom_39 ?_
    exact s_iret (pc := 40) dX0_missingFrom_40 rfl (fun _ _ q => q)
theorem pX0_missingFrom_ok (ho : xok [(0, b0)] h.2.1) (s0 : RS) (a0 : Int32) : ∀ x, pX0_missingFrom s0 a0 = some x → aMet l 1 yX0_missingFrom cX0_missingFrom 4 (some .int) [.ref b0, .int a0] (xw [(0, b0, f0, s0)] h) (some (.int x)) (xw [(0, b0, f0, s0)] h) := fun x hx => a_meth (ini := false) (y := yX0_missingFrom) (by decide +kernel) (fun q => by cases q) (fun _ => Nat.le_of_ble_eq_true rfl) (pX0_missingFrom_w ho s0 a0) x hx _ _ ⟨rfl, rfl⟩
end
section
variable {l : Launch} {n0 S0 : Nat} {h : aH} {b0 : Nat} {f0 : Nat → Option Nat}
abbrev MX0_isClosed : aM := (cX0_isClosed, RX0, 2, (some .boolean), false)
def pX0_isClosed (s0 : RS) (a0 : Int32) : Option Bool :=
  (pX0_missingFrom s0 a0).bind fun x1 =>
  if x1 = 0 then
    some true
  else
    some false
theorem pX0_isClosed_w (ho : xok [(0, b0)] h.2.1) (s0 : RS) (a0 : Int32) : aS l 2 MX0_isClosed n0 S0 (oΦ (fun (x : Bool) => ((some (.int (b2i x))), xw [(0, b0, f0, s0)] h))) 0 [(0, .ref b0), (1, .int a0)] [] (xw [(0, b0, f0, s0)] h) (pX0_isClosed s0 a0) := by
  unfold pX0_isClosed
  refine s_aload_n (pc := 0) 0 dX0_isClosed_0 rfl ?_
  refine s_iload_n (pc := 1) 1 dX0_isClosed_1 rfl ?_
  refine x_callV (M := MX0_isClosed) (L := [(0, b0, f0, s0)]) (h := h) (j := 0) (As := [.int a0]) (st := []) (A := fun (x : Int32) => some (.int x)) (Lc := [(0, b0, f0, s0)]) (Lr := fun (x : Int32) => [(0, b0, f0, s0)]) (L2 := fun (x : Int32) => [(0, b0, f0, s0)]) cv_X0_89 (by decide) (pc := 2) dX0_isClosed_2 ho rfl xc0_0 rfl rfl (Nat.le_of_ble_eq_true rfl) (xovs (L := [(0, b0, f0, s0)]) (h := h) [(0, (0, b0, f0, s0))] ho ⟨rfl, trivial⟩).1 (fun x => (xovs (L := [(0, b0, f0, s0)]) (h := h) [(0, (0, b0, f0, s0))] ho ⟨rfl, trivial⟩).1) (fun x hx => pX0_missingFrom_ok (h := xw [(0, b0, f0, s0)] h) (f0 := f0) (xok_sub ho [0] rfl (by decide)) s0 a0 x hx) rfl (fun x1 _ => ?_)
  refine s_if_ne (tgt := 12) (pc := 5) dX0_isClosed_5 (by decide) (fun _ => ?_) (fun _ => ?_)
  · refine s_iconst (v := 1) (pc := 8) dX0_isClosed_8 (by decide) ?_
    refine s_goto (tgt := 13) (pc := 9) dX0_isClosed_9 (by decide) ?_
    exact s_zretB (b := true) (pc := 13) dX0_isClosed_13 rfl (fun _ _ q => q)
  · refine s_iconst (v := 0) (pc := 12) dX0_isClosed_12 (by decide) ?_
    exact s_zretB (b := false) (pc := 13) dX0_isClosed_13 rfl (fun _ _ q => q)
theorem pX0_isClosed_ok (ho : xok [(0, b0)] h.2.1) (s0 : RS) (a0 : Int32) : ∀ x, pX0_isClosed s0 a0 = some x → aMet l 2 yX0_isClosed cX0_isClosed 2 (some .boolean) [.ref b0, .int a0] (xw [(0, b0, f0, s0)] h) (some (.int (b2i x))) (xw [(0, b0, f0, s0)] h) := fun x hx => a_meth (ini := false) (y := yX0_isClosed) (by decide +kernel) (fun q => by cases q) (fun _ => Nat.le_of_ble_eq_true rfl) (pX0_isClosed_w ho s0 a0) x hx _ _ ⟨rfl, rfl⟩
end
section
variable {l : Launch} {n0 S0 : Nat} {h : aH} {b0 : Nat} {f0 : Nat → Option Nat}
abbrev MX0_without : aM := (cX0_without, RX0, 3, (some .int), false)
def pX0_without (s0 : RS) (a0 : Int32) (a1 : Int32) : Option Int32 :=
  (pX0_isChange s0 a1).bind fun x1 =>
  if x1 = true then
    g_in a1 16 (
    some (a0 &&& (((s0.2.2.1 11 a1.toNatClampNeg) ||| ((1 : Int32) <<< (a1 &&& 31))) ^^^ (-1 : Int32))))
  else
    some a0
theorem pX0_without_w (ho : xok [(0, b0)] h.2.1) (s0 : RS) (a0 : Int32) (a1 : Int32) : aS l 1 MX0_without n0 S0 (oΦ (fun (x : Int32) => ((some (.int x)), xw [(0, b0, f0, s0)] h))) 0 [(0, .ref b0), (1, .int a0), (2, .int a1)] [] (xw [(0, b0, f0, s0)] h) (pX0_without s0 a0 a1) := by
  unfold pX0_without
  refine s_aload_n (pc := 0) 0 dX0_without_0 rfl ?_
  refine s_iload_n (pc := 1) 2 dX0_without_1 rfl ?_
  refine x_callV (M := MX0_without) (L := [(0, b0, f0, s0)]) (h := h) (j := 0) (As := [.int a1]) (st := []) (A := fun (x : Bool) => some (.int (b2i x))) (Lc := [(0, b0, f0, s0)]) (Lr := fun (x : Bool) => [(0, b0, f0, s0)]) (L2 := fun (x : Bool) => [(0, b0, f0, s0)]) cv_X0_66 (by decide) (pc := 2) dX0_without_2 ho rfl xc0_0 rfl rfl (Nat.le_of_ble_eq_true rfl) (xovs (L := [(0, b0, f0, s0)]) (h := h) [(0, (0, b0, f0, s0))] ho ⟨rfl, trivial⟩).1 (fun x => (xovs (L := [(0, b0, f0, s0)]) (h := h) [(0, (0, b0, f0, s0))] ho ⟨rfl, trivial⟩).1) (fun x hx => pX0_isChange_ok (h := xw [(0, b0, f0, s0)] h) (f0 := f0) (xok_sub ho [0] rfl (by decide)) s0 a1 x hx) rfl (fun x1 _ => ?_)
  refine s_if_eqB (tgt := 25) (pc := 5) dX0_without_5 (by decide) (fun _ => ?_) (fun _ => ?_)
  · refine s_iload_n (pc := 8) 1 dX0_without_8 rfl ?_
    refine s_aload_n (pc := 9) 0 dX0_without_9 rfl ?_
    refine xg_X0_47 0 ho rfl (pc := 10) dX0_without_10 rfl ?_
    refine s_iload_n (pc := 13) 2 dX0_without_13 rfl ?_
    refine xl_0_11 0 ho rfl (pc := 14) dX0_without_14 ?_
    refine s_iconst (v := 1) (pc := 15) dX0_without_15 (by decide) ?_
    refine s_iload_n (pc := 16) 2 dX0_without_16 rfl ?_
    refine s_ishl (pc := 17) dX0_without_17 ?_
    refine s_ior (pc := 18) dX0_without_18 ?_
    refine s_iconst (v := (-1)) (pc := 19) dX0_without_19 (by decide) ?_
    refine s_ixor (pc := 20) dX0_without_20 ?_
    refine s_iand (pc := 21) dX0_without_21 ?_
    refine s_goto (tgt := 26) (pc := 22) dX0_without_22 (by decide) ?_
    exact s_iret (pc := 26) dX0_without_26 rfl (fun _ _ q => q)
  · refine s_iload_n (pc := 25) 1 dX0_without_25 rfl ?_
    exact s_iret (pc := 26) dX0_without_26 rfl (fun _ _ q => q)
theorem pX0_without_ok (ho : xok [(0, b0)] h.2.1) (s0 : RS) (a0 : Int32) (a1 : Int32) : ∀ x, pX0_without s0 a0 a1 = some x → aMet l 1 yX0_without cX0_without 3 (some .int) [.ref b0, .int a0, .int a1] (xw [(0, b0, f0, s0)] h) (some (.int x)) (xw [(0, b0, f0, s0)] h) := fun x hx => a_meth (ini := false) (y := yX0_without) (by decide +kernel) (fun q => by cases q) (fun _ => Nat.le_of_ble_eq_true rfl) (pX0_without_w ho s0 a0 a1) x hx _ _ ⟨rfl, rfl⟩
end
section
variable {l : Launch} {n0 S0 : Nat} {h : aH} {b0 : Nat} {f0 : Nat → Option Nat}
abbrev MX0_including : aM := (cX0_including, RX0, 3, (some .int), false)
def pX0_including (s0 : RS) (a0 : Int32) (a1 : Int32) : Option Int32 :=
  (pX0_isChange s0 a1).bind fun x1 =>
  if x1 = true then
    g_in a1 16 (
    some ((a0 ||| (s0.2.2.1 10 a1.toNatClampNeg)) ||| ((1 : Int32) <<< (a1 &&& 31))))
  else
    some a0
theorem pX0_including_w (ho : xok [(0, b0)] h.2.1) (s0 : RS) (a0 : Int32) (a1 : Int32) : aS l 1 MX0_including n0 S0 (oΦ (fun (x : Int32) => ((some (.int x)), xw [(0, b0, f0, s0)] h))) 0 [(0, .ref b0), (1, .int a0), (2, .int a1)] [] (xw [(0, b0, f0, s0)] h) (pX0_including s0 a0 a1) := by
  unfold pX0_including
  refine s_aload_n (pc := 0) 0 dX0_including_0 rfl ?_
  refine s_iload_n (pc := 1) 2 dX0_including_1 rfl ?_
  refine x_callV (M := MX0_including) (L := [(0, b0, f0, s0)]) (h := h) (j := 0) (As := [.int a1]) (st := []) (A := fun (x : Bool) => some (.int (b2i x))) (Lc := [(0, b0, f0, s0)]) (Lr := fun (x : Bool) => [(0, b0, f0, s0)]) (L2 := fun (x : Bool) => [(0, b0, f0, s0)]) cv_X0_66 (by decide) (pc := 2) dX0_including_2 ho rfl xc0_0 rfl rfl (Nat.le_of_ble_eq_true rfl) (xovs (L := [(0, b0, f0, s0)]) (h := h) [(0, (0, b0, f0, s0))] ho ⟨rfl, trivial⟩).1 (fun x => (xovs (L := [(0, b0, f0, s0)]) (h := h) [(0, (0, b0, f0, s0))] ho ⟨rfl, trivial⟩).1) (fun x hx => pX0_isChange_ok (h := xw [(0, b0, f0, s0)] h) (f0 := f0) (xok_sub ho [0] rfl (by decide)) s0 a1 x hx) rfl (fun x1 _ => ?_)
  refine s_if_eqB (tgt := 23) (pc := 5) dX0_including_5 (by decide) (fun _ => ?_) (fun _ => ?_)
  · refine s_iload_n (pc := 8) 1 dX0_including_8 rfl ?_
    refine s_aload_n (pc := 9) 0 dX0_including_9 rfl ?_
    refine xg_X0_44 0 ho rfl (pc := 10) dX0_including_10 rfl ?_
    refine s_iload_n (pc := 13) 2 dX0_including_13 rfl ?_
    refine xl_0_10 0 ho rfl (pc := 14) dX0_including_14 ?_
    refine s_ior (pc := 15) dX0_including_15 ?_
    refine s_iconst (v := 1) (pc := 16) dX0_including_16 (by decide) ?_
    refine s_iload_n (pc := 17) 2 dX0_including_17 rfl ?_
    refine s_ishl (pc := 18) dX0_including_18 ?_
    refine s_ior (pc := 19) dX0_including_19 ?_
    refine s_goto (tgt := 24) (pc := 20) dX0_including_20 (by decide) ?_
    exact s_iret (pc := 24) dX0_including_24 rfl (fun _ _ q => q)
  · refine s_iload_n (pc := 23) 1 dX0_including_23 rfl ?_
    exact s_iret (pc := 24) dX0_including_24 rfl (fun _ _ q => q)
theorem pX0_including_ok (ho : xok [(0, b0)] h.2.1) (s0 : RS) (a0 : Int32) (a1 : Int32) : ∀ x, pX0_including s0 a0 a1 = some x → aMet l 1 yX0_including cX0_including 3 (some .int) [.ref b0, .int a0, .int a1] (xw [(0, b0, f0, s0)] h) (some (.int x)) (xw [(0, b0, f0, s0)] h) := fun x hx => a_meth (ini := false) (y := yX0_including) (by decide +kernel) (fun q => by cases q) (fun _ => Nat.le_of_ble_eq_true rfl) (pX0_including_w ho s0 a0 a1) x hx _ _ ⟨rfl, rfl⟩
end
section
variable {l : Launch} {n0 S0 : Nat} {h : aH} {b0 : Nat} {f0 : Nat → Option Nat}
abbrev MX0_heaviestChange : aM := (cX0_heaviestChange, RX0, 3, (some .int), false)
def X0_heaviestChange_x4 (l : Launch) (n0 S0 : Nat) (h : aH) (b0 : Nat) (f0 : Nat → Option Nat) (s0 : RS) : Int32 → Option Value → aH → Prop := fun (x : Int32) r h' => aEv l 1 MX0_heaviestChange n0 S0 41 [(1, .int x)] [] (xw [(0, b0, f0, s0)] h) r h'
def X0_heaviestChange_j35 (v1 : Int32) (v2 : Int32) (s0 : RS) : Option ((Int32 × Int32) ⊕ Int32) :=
  thn (v2 + 1) fun x3 =>
  some (.inl (v1, x3))
theorem X0_heaviestChange_j35_ok (ho : xok [(0, b0)] h.2.1) (v1 : Int32) (v2 : Int32) (s0 : RS) : aS l 1 MX0_heaviestChange n0 S0 (a_LΦ (X0_heaviestChange_x4 l n0 S0 h b0 f0 s0) l 1 MX0_heaviestChange n0 S0 4 (fun (q : Int32 × Int32) => [(0, .ref b0), (1, .int q.1), (2, .int q.2)]) (fun _ => []) (fun (q : Int32 × Int32) => xw [(0, b0, f0, s0)] h)) 35 [(0, .ref b0), (1, .int v1), (2, .int v2)] [] (xw [(0, b0, f0, s0)] h) (X0_heaviestChange_j35 v1 v2 s0) := by
  unfold X0_heaviestChange_j35
  refine s_iincT (pc := 35) 2 (lv' := fun x3 => [(2, .int x3), (0, .ref b0), (1, .int v1)]) dX0_heaviestChange_35 rfl rfl (by decide) (fun _ => rfl) (fun x3 => ?_)
  refine s_goto (tgt := 4) (pc := 38) dX0_heaviestChange_38 (by decide) ?_
  refine s_sub [1, 2, 0] rfl ?_
  exact s_ev (fun _ _ q => q)
def X0_heaviestChange_b4 (v1 : Int32) (v2 : Int32) (s0 : RS) : Option ((Int32 × Int32) ⊕ Int32) :=
  if (s0.1 1) ≤ v2 then
    some (.inr v1)
  else
    g_in v2 16 (
    (pJ6_bitCount_0f7a4 (s0.2.2.1 11 v2.toNatClampNeg)).bind fun x1 =>
    g_in v1 16 (
    (pJ6_bitCount_0f7a4 (s0.2.2.1 11 v1.toNatClampNeg)).bind fun x2 =>
    if x1 ≤ x2 then
      X0_heaviestChange_j35 v1 v2 s0
    else
      X0_heaviestChange_j35 v2 v2 s0))
theorem X0_heaviestChange_b4_ok (ho : xok [(0, b0)] h.2.1) (v1 : Int32) (v2 : Int32) (s0 : RS) : aS l 1 MX0_heaviestChange n0 S0 (a_LΦ (X0_heaviestChange_x4 l n0 S0 h b0 f0 s0) l 1 MX0_heaviestChange n0 S0 4 (fun (q : Int32 × Int32) => [(0, .ref b0), (1, .int q.1), (2, .int q.2)]) (fun _ => []) (fun (q : Int32 × Int32) => xw [(0, b0, f0, s0)] h)) 4 [(0, .ref b0), (1, .int v1), (2, .int v2)] [] (xw [(0, b0, f0, s0)] h) (X0_heaviestChange_b4 v1 v2 s0) := by
  unfold X0_heaviestChange_b4
  refine s_iload_n (pc := 4) 2 dX0_heaviestChange_4 rfl ?_
  refine s_aload_n (pc := 5) 0 dX0_heaviestChange_5 rfl ?_
  refine xg_X0_15 0 ho rfl (pc := 6) dX0_heaviestChange_6 rfl ?_
  refine s_icmp_ge (tgt := 41) (pc := 9) dX0_heaviestChange_9 (by decide) (fun _ => ?_) (fun _ => ?_)
  · refine s_sub [1] rfl ?_
    exact s_ev (fun _ _ q => q)
  · refine s_aload_n (pc := 12) 0 dX0_heaviestChange_12 rfl ?_
    refine xg_X0_47 0 ho rfl (pc := 13) dX0_heaviestChange_13 rfl ?_
    refine s_iload_n (pc := 16) 2 dX0_heaviestChange_16 rfl ?_
    refine xl_0_11 0 ho rfl (pc := 17) dX0_heaviestChange_17 ?_
    refine s_callS (M := MX0_heaviestChange) (As := [.int (s0.2.2.1 11 v2.toNatClampNeg)]) (st := []) (Ψ := fun (x : Int32) => (some (.int x), xw [(0, b0, f0, s0)] h)) cs_X0_83 (by decide) (pc := 18) dX0_heaviestChange_18 rfl (Nat.le_of_ble_eq_true rfl) (fun x hx => pJ6_bitCount_0f7a4_ok (s0.2.2.1 11 v2.toNatClampNeg) x hx) rfl (fun x1 _ => ?_)
    refine s_aload_n (pc := 21) 0 dX0_heaviestChange_21 rfl ?_
    refine xg_X0_47 0 ho rfl (pc := 22) dX0_heaviestChange_22 rfl ?_
    refine s_iload_n (pc := 25) 1 dX0_heaviestChange_25 rfl ?_
    refine xl_0_11 0 ho rfl (pc := 26) dX0_heaviestChange_26 ?_
    refine s_callS (M := MX0_heaviestChange) (As := [.int (s0.2.2.1 11 v1.toNatClampNeg)]) (st := [.int x1]) (Ψ := fun (x : Int32) => (some (.int x), xw [(0, b0, f0, s0)] h)) cs_X0_83 (by decide) (pc := 27) dX0_heaviestChange_27 rfl (Nat.le_of_ble_eq_true rfl) (fun x hx => pJ6_bitCount_0f7a4_ok (s0.2.2.1 11 v1.toNatClampNeg) x hx) rfl (fun x2 _ => ?_)
    refine s_icmp_le (tgt := 35) (pc := 30) dX0_heaviestChange_30 (by decide) (fun _ => ?_) (fun _ => ?_)
    · exact X0_heaviestChange_j35_ok ho v1 v2 s0
    · refine s_iload_n (pc := 33) 2 dX0_heaviestChange_33 rfl ?_
      refine s_istore_n (lv' := [(1, .int v2), (0, .ref b0), (2, .int v2)]) (pc := 34) dX0_heaviestChange_34 (by decide) rfl ?_
      refine s_sub [1, 0, 2] rfl ?_
      exact X0_heaviestChange_j35_ok ho v2 v2 s0
def pX0_heaviestChange (s0 : RS) : Option Int32 :=
  (a_loop (fun (q : Int32 × Int32) => X0_heaviestChange_b4 q.1 q.2 s0) FU ((0 : Int32), (1 : Int32))).bind fun (t4 : Int32) =>
    some t4
theorem pX0_heaviestChange_w (ho : xok [(0, b0)] h.2.1) (s0 : RS) : aS l 1 MX0_heaviestChange n0 S0 (oΦ (fun (x : Int32) => ((some (.int x)), xw [(0, b0, f0, s0)] h))) 0 [(0, .ref b0)] [] (xw [(0, b0, f0, s0)] h) (pX0_heaviestChange s0) := by
  unfold pX0_heaviestChange
  refine s_iconst (v := 0) (pc := 0) dX0_heaviestChange_0 (by decide) ?_
  refine s_istore_n (lv' := [(1, .int 0), (0, .ref b0)]) (pc := 1) dX0_heaviestChange_1 (by decide) rfl ?_
  refine s_iconst (v := 1) (pc := 2) dX0_heaviestChange_2 (by decide) ?_
  refine s_istore_n (lv' := [(2, .int 1), (1, .int 0), (0, .ref b0)]) (pc := 3) dX0_heaviestChange_3 (by decide) rfl ?_
  refine s_bind (Ψ := X0_heaviestChange_x4 l n0 S0 h b0 f0 s0) ?_ ?_
  · refine s_sub [2, 1, 0] rfl ?_
    exact s_loop (lvf := fun (q : Int32 × Int32) => [(0, .ref b0), (1, .int q.1), (2, .int q.2)]) (stf := fun _ => []) (hf := fun (q : Int32 × Int32) => xw [(0, b0, f0, s0)] h) (fun q => X0_heaviestChange_b4_ok ho q.1 q.2 s0) FU ((0 : Int32), (1 : Int32))
  · intro t4 z r h' hz hr
    refine (?_ : aS l 1 MX0_heaviestChange n0 S0 (oΦ (fun (x : Int32) => ((some (.int x)), xw [(0, b0, f0, s0)] h))) 41 [(1, .int t4)] [] (xw [(0, b0, f0, s0)] h) _) z hz r h' hr
    refine s_iload_n (pc := 41) 0 dX0_heaviestChange_41 rfl ?_
    exact s_iret (pc := 42) dX0_heaviestChange_42 rfl (fun _ _ q => q)
theorem pX0_heaviestChange_ok (ho : xok [(0, b0)] h.2.1) (s0 : RS) : ∀ x, pX0_heaviestChange s0 = some x → aMet l 1 yX0_heaviestChange cX0_heaviestChange 3 (some .int) [.ref b0] (xw [(0, b0, f0, s0)] h) (some (.int x)) (xw [(0, b0, f0, s0)] h) := fun x hx => a_meth (ini := false) (y := yX0_heaviestChange) (by decide +kernel) (fun q => by cases q) (fun _ => Nat.le_of_ble_eq_true rfl) (pX0_heaviestChange_w ho s0) x hx _ _ ⟨rfl, rfl⟩
end
section
variable {l : Launch} {n0 S0 : Nat} {h : aH} {b0 : Nat} {f0 : Nat → Option Nat}
abbrev MX0_lonelyPuts : aM := (cX0_lonelyPuts, RX0, 3, (some .int), false)
def X0_lonelyPuts_x4 (l : Launch) (n0 S0 : Nat) (h : aH) (b0 : Nat) (f0 : Nat → Option Nat) (s0 : RS) : Int32 → Option Value → aH → Prop := fun (x : Int32) r h' => aEv l 0 MX0_lonelyPuts n0 S0 42 [(1, .int x)] [] (xw [(0, b0, f0, s0)] h) r h'
def X0_lonelyPuts_j36 (v1 : Int32) (v2 : Int32) (s0 : RS) : Option ((Int32 × Int32) ⊕ Int32) :=
  thn (v2 + 1) fun x1 =>
  some (.inl (v1, x1))
theorem X0_lonelyPuts_j36_ok (ho : xok [(0, b0)] h.2.1) (v1 : Int32) (v2 : Int32) (s0 : RS) : aS l 0 MX0_lonelyPuts n0 S0 (a_LΦ (X0_lonelyPuts_x4 l n0 S0 h b0 f0 s0) l 0 MX0_lonelyPuts n0 S0 4 (fun (q : Int32 × Int32) => [(0, .ref b0), (1, .int q.1), (2, .int q.2)]) (fun _ => []) (fun (q : Int32 × Int32) => xw [(0, b0, f0, s0)] h)) 36 [(0, .ref b0), (1, .int v1), (2, .int v2)] [] (xw [(0, b0, f0, s0)] h) (X0_lonelyPuts_j36 v1 v2 s0) := by
  unfold X0_lonelyPuts_j36
  refine s_iincT (pc := 36) 2 (lv' := fun x1 => [(2, .int x1), (0, .ref b0), (1, .int v1)]) dX0_lonelyPuts_36 rfl rfl (by decide) (fun _ => rfl) (fun x1 => ?_)
  refine s_goto (tgt := 4) (pc := 39) dX0_lonelyPuts_39 (by decide) ?_
  refine s_sub [1, 2, 0] rfl ?_
  exact s_ev (fun _ _ q => q)
def X0_lonelyPuts_b4 (v1 : Int32) (v2 : Int32) (s0 : RS) : Option ((Int32 × Int32) ⊕ Int32) :=
  if (s0.1 1) ≤ v2 then
    some (.inr v1)
  else
    g_in v2 16 (
    if (s0.2.2.1 4 v2.toNatClampNeg) = 0 then
      g_in v2 16 (
      if (s0.2.2.1 11 v2.toNatClampNeg) = 0 then
        thn (v1 ||| ((1 : Int32) <<< (v2 &&& 31))) fun x2 =>
        X0_lonelyPuts_j36 x2 v2 s0
      else
        X0_lonelyPuts_j36 v1 v2 s0)
    else
      X0_lonelyPuts_j36 v1 v2 s0)
theorem X0_lonelyPuts_b4_ok (ho : xok [(0, b0)] h.2.1) (v1 : Int32) (v2 : Int32) (s0 : RS) : aS l 0 MX0_lonelyPuts n0 S0 (a_LΦ (X0_lonelyPuts_x4 l n0 S0 h b0 f0 s0) l 0 MX0_lonelyPuts n0 S0 4 (fun (q : Int32 × Int32) => [(0, .ref b0), (1, .int q.1), (2, .int q.2)]) (fun _ => []) (fun (q : Int32 × Int32) => xw [(0, b0, f0, s0)] h)) 4 [(0, .ref b0), (1, .int v1), (2, .int v2)] [] (xw [(0, b0, f0, s0)] h) (X0_lonelyPuts_b4 v1 v2 s0) := by
  unfold X0_lonelyPuts_b4
  refine s_iload_n (pc := 4) 2 dX0_lonelyPuts_4 rfl ?_
  refine s_aload_n (pc := 5) 0 dX0_lonelyPuts_5 rfl ?_
  refine xg_X0_15 0 ho rfl (pc := 6) dX0_lonelyPuts_6 rfl ?_
  refine s_icmp_ge (tgt := 42) (pc := 9) dX0_lonelyPuts_9 (by decide) (fun _ => ?_) (fun _ => ?_)
  · refine s_sub [1] rfl ?_
    exact s_ev (fun _ _ q => q)
  · refine s_aload_n (pc := 12) 0 dX0_lonelyPuts_12 rfl ?_
    refine xg_X0_25 0 ho rfl (pc := 13) dX0_lonelyPuts_13 rfl ?_
    refine s_iload_n (pc := 16) 2 dX0_lonelyPuts_16 rfl ?_
    refine xl_0_4 0 ho rfl (pc := 17) dX0_lonelyPuts_17 ?_
    refine s_if_ne (tgt := 36) (pc := 18) dX0_lonelyPuts_18 (by decide) (fun _ => ?_) (fun _ => ?_)
    · refine s_aload_n (pc := 21) 0 dX0_lonelyPuts_21 rfl ?_
      refine xg_X0_47 0 ho rfl (pc := 22) dX0_lonelyPuts_22 rfl ?_
      refine s_iload_n (pc := 25) 2 dX0_lonelyPuts_25 rfl ?_
      refine xl_0_11 0 ho rfl (pc := 26) dX0_lonelyPuts_26 ?_
      refine s_if_ne (tgt := 36) (pc := 27) dX0_lonelyPuts_27 (by decide) (fun _ => ?_) (fun _ => ?_)
      · refine s_iload_n (pc := 30) 1 dX0_lonelyPuts_30 rfl ?_
        refine s_iconst (v := 1) (pc := 31) dX0_lonelyPuts_31 (by decide) ?_
        refine s_iload_n (pc := 32) 2 dX0_lonelyPuts_32 rfl ?_
        refine s_ishl (pc := 33) dX0_lonelyPuts_33 ?_
        refine s_ior (pc := 34) dX0_lonelyPuts_34 ?_
        refine s_istore_nT (lv' := fun x2 => [(1, .int x2), (0, .ref b0), (2, .int v2)]) (pc := 35) dX0_lonelyPuts_35 (by decide) (fun _ => rfl) (fun x2 => ?_)
        refine s_sub [1, 0, 2] rfl ?_
        exact X0_lonelyPuts_j36_ok ho x2 v2 s0
      · exact X0_lonelyPuts_j36_ok ho v1 v2 s0
    · exact X0_lonelyPuts_j36_ok ho v1 v2 s0
def pX0_lonelyPuts (s0 : RS) : Option Int32 :=
  (a_loop (fun (q : Int32 × Int32) => X0_lonelyPuts_b4 q.1 q.2 s0) FU ((0 : Int32), (0 : Int32))).bind fun (t3 : Int32) =>
    some t3
theorem pX0_lonelyPuts_w (ho : xok [(0, b0)] h.2.1) (s0 : RS) : aS l 0 MX0_lonelyPuts n0 S0 (oΦ (fun (x : Int32) => ((some (.int x)), xw [(0, b0, f0, s0)] h))) 0 [(0, .ref b0)] [] (xw [(0, b0, f0, s0)] h) (pX0_lonelyPuts s0) := by
  unfold pX0_lonelyPuts
  refine s_iconst (v := 0) (pc := 0) dX0_lonelyPuts_0 (by decide) ?_
  refine s_istore_n (lv' := [(1, .int 0), (0, .ref b0)]) (pc := 1) dX0_lonelyPuts_1 (by decide) rfl ?_
  refine s_iconst (v := 0) (pc := 2) dX0_lonelyPuts_2 (by decide) ?_
  refine s_istore_n (lv' := [(2, .int 0), (1, .int 0), (0, .ref b0)]) (pc := 3) dX0_lonelyPuts_3 (by decide) rfl ?_
  refine s_bind (Ψ := X0_lonelyPuts_x4 l n0 S0 h b0 f0 s0) ?_ ?_
  · refine s_sub [2, 1, 0] rfl ?_
    exact s_loop (lvf := fun (q : Int32 × Int32) => [(0, .ref b0), (1, .int q.1), (2, .int q.2)]) (stf := fun _ => []) (hf := fun (q : Int32 × Int32) => xw [(0, b0, f0, s0)] h) (fun q => X0_lonelyPuts_b4_ok ho q.1 q.2 s0) FU ((0 : Int32), (0 : Int32))
  · intro t3 z r h' hz hr
    refine (?_ : aS l 0 MX0_lonelyPuts n0 S0 (oΦ (fun (x : Int32) => ((some (.int x)), xw [(0, b0, f0, s0)] h))) 42 [(1, .int t3)] [] (xw [(0, b0, f0, s0)] h) _) z hz r h' hr
    refine s_iload_n (pc := 42) 0 dX0_lonelyPuts_42 rfl ?_
    exact s_iret (pc := 43) dX0_lonelyPuts_43 rfl (fun _ _ q => q)
theorem pX0_lonelyPuts_ok (ho : xok [(0, b0)] h.2.1) (s0 : RS) : ∀ x, pX0_lonelyPuts s0 = some x → aMet l 0 yX0_lonelyPuts cX0_lonelyPuts 3 (some .int) [.ref b0] (xw [(0, b0, f0, s0)] h) (some (.int x)) (xw [(0, b0, f0, s0)] h) := fun x hx => a_meth (ini := false) (y := yX0_lonelyPuts) (by decide +kernel) (fun q => by cases q) (fun _ => Nat.le_of_ble_eq_true rfl) (pX0_lonelyPuts_w ho s0) x hx _ _ ⟨rfl, rfl⟩
end
section
variable {l : Launch} {n0 S0 : Nat} {h : aH} {b0 : Nat} {f0 : Nat → Option Nat}
abbrev MX0_quarrelersOf : aM := (cX0_quarrelersOf, RX0, 5, (some .int), false)
def X0_quarrelersOf_x30 (l : Launch) (n0 S0 : Nat) (h : aH) (b0 : Nat) (f0 : Nat → Option Nat) (v1 : Int32) (v2 : Int32) (s0 : RS) : Int32 → Option Value → aH → Prop := fun (x : Int32) r h' => aEv l 1 MX0_quarrelersOf n0 S0 116 [(3, .int x)] [] (xw [(0, b0, f0, s0)] h) r h'
def X0_quarrelersOf_j110 (v1 : Int32) (v2 : Int32) (v3 : Int32) (v4 : Int32) (s0 : RS) : Option ((Int32 × Int32) ⊕ Int32) :=
  thn (v4 + 1) fun x5 =>
  some (.inl (v3, x5))
theorem X0_quarrelersOf_j110_ok (ho : xok [(0, b0)] h.2.1) (v1 : Int32) (v2 : Int32) (v3 : Int32) (v4 : Int32) (s0 : RS) : aS l 1 MX0_quarrelersOf n0 S0 (a_LΦ (X0_quarrelersOf_x30 l n0 S0 h b0 f0 v1 v2 s0) l 1 MX0_quarrelersOf n0 S0 30 (fun (q : Int32 × Int32) => [(0, .ref b0), (1, .int v1), (2, .int v2), (3, .int q.1), (4, .int q.2)]) (fun _ => []) (fun (q : Int32 × Int32) => xw [(0, b0, f0, s0)] h)) 110 [(0, .ref b0), (1, .int v1), (2, .int v2), (3, .int v3), (4, .int v4)] [] (xw [(0, b0, f0, s0)] h) (X0_quarrelersOf_j110 v1 v2 v3 v4 s0) := by
  unfold X0_quarrelersOf_j110
  refine s_iincT (pc := 110) 4 (lv' := fun x5 => [(4, .int x5), (0, .ref b0), (1, .int v1), (2, .int v2), (3, .int v3)]) dX0_quarrelersOf_110 rfl rfl (by decide) (fun _ => rfl) (fun x5 => ?_)
  refine s_goto (tgt := 30) (pc := 113) dX0_quarrelersOf_113 (by decide) ?_
  refine s_sub [1, 2, 3, 4, 0] rfl ?_
  exact s_ev (fun _ _ q => q)
def X0_quarrelersOf_b30 (v1 : Int32) (v2 : Int32) (v3 : Int32) (v4 : Int32) (s0 : RS) : Option ((Int32 × Int32) ⊕ Int32) :=
  if (s0.1 1) ≤ v4 then
    some (.inr v3)
  else
    if v3 = 0 then
      some (.inr v3)
    else
      (pX0_isIn ((s0.1 15) &&& v1) v4).bind fun x4 =>
      if x4 = true then
        g_in v4 16 (
        if (s0.2.2.1 13 v4.toNatClampNeg) = v2 then
          g_in v4 16 (
          thn (v3 &&& (((1 : Int32) <<< ((s0.2.2.1 14 v4.toNatClampNeg) &&& 31)) ^^^ (-1 : Int32))) fun x7 =>
          X0_quarrelersOf_j110 v1 v2 x7 v4 s0)
        else
          g_in v4 16 (
          if (s0.2.2.1 14 v4.toNatClampNeg) = v2 then
            g_in v4 16 (
            thn (v3 &&& (((1 : Int32) <<< ((s0.2.2.1 13 v4.toNatClampNeg) &&& 31)) ^^^ (-1 : Int32))) fun x6 =>
            X0_quarrelersOf_j110 v1 v2 x6 v4 s0)
          else
            X0_quarrelersOf_j110 v1 v2 v3 v4 s0))
      else
        X0_quarrelersOf_j110 v1 v2 v3 v4 s0
theorem X0_quarrelersOf_b30_ok (ho : xok [(0, b0)] h.2.1) (v1 : Int32) (v2 : Int32) (v3 : Int32) (v4 : Int32) (s0 : RS) : aS l 1 MX0_quarrelersOf n0 S0 (a_LΦ (X0_quarrelersOf_x30 l n0 S0 h b0 f0 v1 v2 s0) l 1 MX0_quarrelersOf n0 S0 30 (fun (q : Int32 × Int32) => [(0, .ref b0), (1, .int v1), (2, .int v2), (3, .int q.1), (4, .int q.2)]) (fun _ => []) (fun (q : Int32 × Int32) => xw [(0, b0, f0, s0)] h)) 30 [(0, .ref b0), (1, .int v1), (2, .int v2), (3, .int v3), (4, .int v4)] [] (xw [(0, b0, f0, s0)] h) (X0_quarrelersOf_b30 v1 v2 v3 v4 s0) := by
  unfold X0_quarrelersOf_b30
  refine s_iload (pc := 30) 4 dX0_quarrelersOf_30 rfl ?_
  refine s_aload_n (pc := 32) 0 dX0_quarrelersOf_32 rfl ?_
  refine xg_X0_15 0 ho rfl (pc := 33) dX0_quarrelersOf_33 rfl ?_
  refine s_icmp_ge (tgt := 116) (pc := 36) dX0_quarrelersOf_36 (by decide) (fun _ => ?_) (fun _ => ?_)
  · refine s_sub [3] rfl ?_
    exact s_ev (fun _ _ q => q)
  · refine s_iload_n (pc := 39) 3 dX0_quarrelersOf_39 rfl ?_
    refine s_if_eq (tgt := 116) (pc := 40) dX0_quarrelersOf_40 (by decide) (fun _ => ?_) (fun _ => ?_)
    · refine s_sub [3] rfl ?_
      exact s_ev (fun _ _ q => q)
    · refine s_aload_n (pc := 43) 0 dX0_quarrelersOf_43 rfl ?_
      refine xg_X0_59 0 ho rfl (pc := 44) dX0_quarrelersOf_44 rfl ?_
      refine s_iload_n (pc := 47) 1 dX0_quarrelersOf_47 rfl ?_
      refine s_iand (pc := 48) dX0_quarrelersOf_48 ?_
      refine s_iload (pc := 49) 4 dX0_quarrelersOf_49 rfl ?_
      refine s_callS (M := MX0_quarrelersOf) (As := [.int ((s0.1 15) &&& v1), .int v4]) (st := []) (Ψ := fun (x : Bool) => (some (.int (b2i x)), xw [(0, b0, f0, s0)] h)) cs_X0_70 (by decide) (pc := 51) dX0_quarrelersOf_51 rfl (Nat.le_of_ble_eq_true rfl) (fun x hx => pX0_isIn_ok ((s0.1 15) &&& v1) v4 x hx) rfl (fun x4 _ => ?_)
      refine s_if_eqB (tgt := 110) (pc := 54) dX0_quarrelersOf_54 (by decide) (fun _ => ?_) (fun _ => ?_)
      · refine s_aload_n (pc := 57) 0 dX0_quarrelersOf_57 rfl ?_
        refine xg_X0_53 0 ho rfl (pc := 58) dX0_quarrelersOf_58 rfl ?_
        refine s_iload (pc := 61) 4 dX0_quarrelersOf_61 rfl ?_
        refine xl_0_13 0 ho rfl (pc := 63) dX0_quarrelersOf_63 ?_
        refine s_iload_n (pc := 64) 2 dX0_quarrelersOf_64 rfl ?_
        refine s_icmp_ne (tgt := 85) (pc := 65) dX0_quarrelersOf_65 (by decide) (fun _ => ?_) (fun _ => ?_)
        · refine s_iload_n (pc := 68) 3 dX0_quarrelersOf_68 rfl ?_
          refine s_iconst (v := 1) (pc := 69) dX0_quarrelersOf_69 (by decide) ?_
          refine s_aload_n (pc := 70) 0 dX0_quarrelersOf_70 rfl ?_
          refine xg_X0_56 0 ho rfl (pc := 71) dX0_quarrelersOf_71 rfl ?_
          refine s_iload (pc := 74) 4 dX0_quarrelersOf_74 rfl ?_
          refine xl_0_14 0 ho rfl (pc := 76) dX0_quarrelersOf_76 ?_
          refine s_ishl (pc := 77) dX0_quarrelersOf_77 ?_
          refine s_iconst (v := (-1)) (pc := 78) dX0_quarrelersOf_78 (by decide) ?_
          refine s_ixor (pc := 79) dX0_quarrelersOf_79 ?_
          refine s_iand (pc := 80) dX0_quarrelersOf_80 ?_
          refine s_istore_nT (lv' := fun x7 => [(3, .int x7), (0, .ref b0), (1, .int v1), (2, .int v2), (4, .int v4)]) (pc := 81) dX0_quarrelersOf_81 (by decide) (fun _ => rfl) (fun x7 => ?_)
          refine s_goto (tgt := 110) (pc := 82) dX0_quarrelersOf_82 (by decide) ?_
          refine s_sub [1, 2, 3, 0, 4] rfl ?_
          exact X0_quarrelersOf_j110_ok ho v1 v2 x7 v4 s0
        · refine s_aload_n (pc := 85) 0 dX0_quarrelersOf_85 rfl ?_
          refine xg_X0_56 0 ho rfl (pc := 86) dX0_quarrelersOf_86 rfl ?_
          refine s_iload (pc := 89) 4 dX0_quarrelersOf_89 rfl ?_
          refine xl_0_14 0 ho rfl (pc := 91) dX0_quarrelersOf_91 ?_
          refine s_iload_n (pc := 92) 2 dX0_quarrelersOf_92 rfl ?_
          refine s_icmp_ne (tgt := 110) (pc := 93) dX0_quarrelersOf_93 (by decide) (fun _ => ?_) (fun _ => ?_)
          · refine s_iload_n (pc := 96) 3 dX0_quarrelersOf_96 rfl ?_
            refine s_iconst (v := 1) (pc := 97) dX0_quarrelersOf_97 (by decide) ?_
            refine s_aload_n (pc := 98) 0 dX0_quarrelersOf_98 rfl ?_
            refine xg_X0_53 0 ho rfl (pc := 99) dX0_quarrelersOf_99 rfl ?_
            refine s_iload (pc := 102) 4 dX0_quarrelersOf_102 rfl ?_
            refine xl_0_13 0 ho rfl (pc := 104) dX0_quarrelersOf_104 ?_
            refine s_ishl (pc := 105) dX0_quarrelersOf_105 ?_
            refine s_iconst (v := (-1)) (pc := 106) dX0_quarrelersOf_106 (by decide) ?_
            refine s_ixor (pc := 107) dX0_quarrelersOf_107 ?_
            refine s_iand (pc := 108) dX0_quarrelersOf_108 ?_
            refine s_istore_nT (lv' := fun x6 => [(3, .int x6), (0, .ref b0), (1, .int v1), (2, .int v2), (4, .int v4)]) (pc := 109) dX0_quarrelersOf_109 (by decide) (fun _ => rfl) (fun x6 => ?_)
            refine s_sub [1, 2, 3, 0, 4] rfl ?_
            exact X0_quarrelersOf_j110_ok ho v1 v2 x6 v4 s0
          · exact X0_quarrelersOf_j110_ok ho v1 v2 v3 v4 s0
      · exact X0_quarrelersOf_j110_ok ho v1 v2 v3 v4 s0
def pX0_quarrelersOf (s0 : RS) (a0 : Int32) (a1 : Int32) : Option Int32 :=
  (pX0_isChange s0 a1).bind fun x1 =>
  if x1 = true then
    (pX0_isIn a0 a1).bind fun x2 =>
    if x2 = true then
      g_in a1 16 (
      thn ((s0.2.2.1 12 a1.toNatClampNeg) &&& a0) fun x3 =>
      (a_loop (fun (q : Int32 × Int32) => X0_quarrelersOf_b30 a0 a1 q.1 q.2 s0) FU (x3, (0 : Int32))).bind fun (t8 : Int32) =>
        some t8)
    else
      some (0 : Int32)
  else
    some (0 : Int32)
theorem pX0_quarrelersOf_w (ho : xok [(0, b0)] h.2.1) (s0 : RS) (a0 : Int32) (a1 : Int32) : aS l 1 MX0_quarrelersOf n0 S0 (oΦ (fun (x : Int32) => ((some (.int x)), xw [(0, b0, f0, s0)] h))) 0 [(0, .ref b0), (1, .int a0), (2, .int a1)] [] (xw [(0, b0, f0, s0)] h) (pX0_quarrelersOf s0 a0 a1) := by
  unfold pX0_quarrelersOf
  refine s_aload_n (pc := 0) 0 dX0_quarrelersOf_0 rfl ?_
  refine s_iload_n (pc := 1) 2 dX0_quarrelersOf_1 rfl ?_
  refine x_callV (M := MX0_quarrelersOf) (L := [(0, b0, f0, s0)]) (h := h) (j := 0) (As := [.int a1]) (st := []) (A := fun (x : Bool) => some (.int (b2i x))) (Lc := [(0, b0, f0, s0)]) (Lr := fun (x : Bool) => [(0, b0, f0, s0)]) (L2 := fun (x : Bool) => [(0, b0, f0, s0)]) cv_X0_66 (by decide) (pc := 2) dX0_quarrelersOf_2 ho rfl xc0_0 rfl rfl (Nat.le_of_ble_eq_true rfl) (xovs (L := [(0, b0, f0, s0)]) (h := h) [(0, (0, b0, f0, s0))] ho ⟨rfl, trivial⟩).1 (fun x => (xovs (L := [(0, b0, f0, s0)]) (h := h) [(0, (0, b0, f0, s0))] ho ⟨rfl, trivial⟩).1) (fun x hx => pX0_isChange_ok (h := xw [(0, b0, f0, s0)] h) (f0 := f0) (xok_sub ho [0] rfl (by decide)) s0 a1 x hx) rfl (fun x1 _ => ?_)
  refine s_if_eqB (tgt := 16) (pc := 5) dX0_quarrelersOf_5 (by decide) (fun _ => ?_) (fun _ => ?_)
  · refine s_iload_n (pc := 8) 1 dX0_quarrelersOf_8 rfl ?_
    refine s_iload_n (pc := 9) 2 dX0_quarrelersOf_9 rfl ?_
    refine s_callS (M := MX0_quarrelersOf) (As := [.int a0, .int a1]) (st := []) (Ψ := fun (x : Bool) => (some (.int (b2i x)), xw [(0, b0, f0, s0)] h)) cs_X0_70 (by decide) (pc := 10) dX0_quarrelersOf_10 rfl (Nat.le_of_ble_eq_true rfl) (fun x hx => pX0_isIn_ok a0 a1 x hx) rfl (fun x2 _ => ?_)
    refine s_if_neB (tgt := 18) (pc := 13) dX0_quarrelersOf_13 (by decide) (fun _ => ?_) (fun _ => ?_)
    · refine s_aload_n (pc := 18) 0 dX0_quarrelersOf_18 rfl ?_
      refine xg_X0_50 0 ho rfl (pc := 19) dX0_quarrelersOf_19 rfl ?_
      refine s_iload_n (pc := 22) 2 dX0_quarrelersOf_22 rfl ?_
      refine xl_0_12 0 ho rfl (pc := 23) dX0_quarrelersOf_23 ?_
      refine s_iload_n (pc := 24) 1 dX0_quarrelersOf_24 rfl ?_
      refine s_iand (pc := 25) dX0_quarrelersOf_25 ?_
      refine s_istore_nT (lv' := fun x3 => [(3, .int x3), (0, .ref b0), (1, .int a0), (2, .int a1)]) (pc := 26) dX0_quarrelersOf_26 (by decide) (fun _ => rfl) (fun x3 => ?_)
      refine s_iconst (v := 0) (pc := 27) dX0_quarrelersOf_27 (by decide) ?_
      refine s_istore (lv' := [(4, .int 0), (3, .int x3), (0, .ref b0), (1, .int a0), (2, .int a1)]) (pc := 28) dX0_quarrelersOf_28 (by decide) rfl ?_
      refine s_bind (Ψ := X0_quarrelersOf_x30 l n0 S0 h b0 f0 a0 a1 s0) ?_ ?_
      · refine s_sub [2, 3, 4, 1, 0] rfl ?_
        exact s_loop (lvf := fun (q : Int32 × Int32) => [(0, .ref b0), (1, .int a0), (2, .int a1), (3, .int q.1), (4, .int q.2)]) (stf := fun _ => []) (hf := fun (q : Int32 × Int32) => xw [(0, b0, f0, s0)] h) (fun q => X0_quarrelersOf_b30_ok ho a0 a1 q.1 q.2 s0) FU (x3, (0 : Int32))
      · intro t8 z r h' hz hr
        refine (?_ : aS l 1 MX0_quarrelersOf n0 S0 (oΦ (fun (x : Int32) => ((some (.int x)), xw [(0, b0, f0, s0)] h))) 116 [(3, .int t8)] [] (xw [(0, b0, f0, s0)] h) _) z hz r h' hr
        refine s_iload_n (pc := 116) 0 dX0_quarrelersOf_116 rfl ?_
        exact s_iret (pc := 117) dX0_quarrelersOf_117 rfl (fun _ _ q => q)
    · refine s_iconst (v := 0) (pc := 16) dX0_quarrelersOf_16 (by decide) ?_
      exact s_iret (pc := 17) dX0_quarrelersOf_17 rfl (fun _ _ q => q)
  · refine s_iconst (v := 0) (pc := 16) dX0_quarrelersOf_16 (by decide) ?_
    exact s_iret (pc := 17) dX0_quarrelersOf_17 rfl (fun _ _ q => q)
theorem pX0_quarrelersOf_ok (ho : xok [(0, b0)] h.2.1) (s0 : RS) (a0 : Int32) (a1 : Int32) : ∀ x, pX0_quarrelersOf s0 a0 a1 = some x → aMet l 1 yX0_quarrelersOf cX0_quarrelersOf 5 (some .int) [.ref b0, .int a0, .int a1] (xw [(0, b0, f0, s0)] h) (some (.int x)) (xw [(0, b0, f0, s0)] h) := fun x hx => a_meth (ini := false) (y := yX0_quarrelersOf) (by decide +kernel) (fun q => by cases q) (fun _ => Nat.le_of_ble_eq_true rfl) (pX0_quarrelersOf_w ho s0 a0 a1) x hx _ _ ⟨rfl, rfl⟩
end
section
variable {l : Launch} {n0 S0 : Nat} {h : aH} {b0 : Nat} {f0 : Nat → Option Nat}
abbrev MX0_countQuarrels : aM := (cX0_countQuarrels, RX0, 4, (some .int), false)
def X0_countQuarrels_x4 (l : Launch) (n0 S0 : Nat) (h : aH) (b0 : Nat) (f0 : Nat → Option Nat) (v1 : Int32) (s0 : RS) : Int32 → Option Value → aH → Prop := fun (x : Int32) r h' => aEv l 2 MX0_countQuarrels n0 S0 30 [(2, .int x)] [] (xw [(0, b0, f0, s0)] h) r h'
def X0_countQuarrels_b4 (v1 : Int32) (v2 : Int32) (v3 : Int32) (s0 : RS) : Option ((Int32 × Int32) ⊕ Int32) :=
  if (s0.1 1) ≤ v3 then
    some (.inr v2)
  else
    (pX0_quarrelersOf s0 v1 v3).bind fun x1 =>
    (pJ6_bitCount_0f7a4 x1).bind fun x2 =>
    thn (v2 + x2) fun x3 =>
    thn (v3 + 1) fun x4 =>
    some (.inl (x3, x4))
theorem X0_countQuarrels_b4_ok (ho : xok [(0, b0)] h.2.1) (v1 : Int32) (v2 : Int32) (v3 : Int32) (s0 : RS) : aS l 2 MX0_countQuarrels n0 S0 (a_LΦ (X0_countQuarrels_x4 l n0 S0 h b0 f0 v1 s0) l 2 MX0_countQuarrels n0 S0 4 (fun (q : Int32 × Int32) => [(0, .ref b0), (1, .int v1), (2, .int q.1), (3, .int q.2)]) (fun _ => []) (fun (q : Int32 × Int32) => xw [(0, b0, f0, s0)] h)) 4 [(0, .ref b0), (1, .int v1), (2, .int v2), (3, .int v3)] [] (xw [(0, b0, f0, s0)] h) (X0_countQuarrels_b4 v1 v2 v3 s0) := by
  unfold X0_countQuarrels_b4
  refine s_iload_n (pc := 4) 3 dX0_countQuarrels_4 rfl ?_
  refine s_aload_n (pc := 5) 0 dX0_countQuarrels_5 rfl ?_
  refine xg_X0_15 0 ho rfl (pc := 6) dX0_countQuarrels_6 rfl ?_
  refine s_icmp_ge (tgt := 30) (pc := 9) dX0_countQuarrels_9 (by decide) (fun _ => ?_) (fun _ => ?_)
  · refine s_sub [2] rfl ?_
    exact s_ev (fun _ _ q => q)
  · refine s_iload_n (pc := 12) 2 dX0_countQuarrels_12 rfl ?_
    refine s_aload_n (pc := 13) 0 dX0_countQuarrels_13 rfl ?_
    refine s_iload_n (pc := 14) 1 dX0_countQuarrels_14 rfl ?_
    refine s_iload_n (pc := 15) 3 dX0_countQuarrels_15 rfl ?_
    refine x_callV (M := MX0_countQuarrels) (L := [(0, b0, f0, s0)]) (h := h) (j := 0) (As := [.int v1, .int v3]) (st := [.int v2]) (A := fun (x : Int32) => some (.int x)) (Lc := [(0, b0, f0, s0)]) (Lr := fun (x : Int32) => [(0, b0, f0, s0)]) (L2 := fun (x : Int32) => [(0, b0, f0, s0)]) cv_X0_92 (by decide) (pc := 16) dX0_countQuarrels_16 ho rfl xc0_0 rfl rfl (Nat.le_of_ble_eq_true rfl) (xovs (L := [(0, b0, f0, s0)]) (h := h) [(0, (0, b0, f0, s0))] ho ⟨rfl, trivial⟩).1 (fun x => (xovs (L := [(0, b0, f0, s0)]) (h := h) [(0, (0, b0, f0, s0))] ho ⟨rfl, trivial⟩).1) (fun x hx => pX0_quarrelersOf_ok (h := xw [(0, b0, f0, s0)] h) (f0 := f0) (xok_sub ho [0] rfl (by decide)) s0 v1 v3 x hx) rfl (fun x1 _ => ?_)
    refine s_callS (M := MX0_countQuarrels) (As := [.int x1]) (st := [.int v2]) (Ψ := fun (x : Int32) => (some (.int x), xw [(0, b0, f0, s0)] h)) cs_X0_83 (by decide) (pc := 19) dX0_countQuarrels_19 rfl (Nat.le_of_ble_eq_true rfl) (fun x hx => pJ6_bitCount_0f7a4_ok x1 x hx) rfl (fun x2 _ => ?_)
    refine s_iadd (pc := 22) dX0_countQuarrels_22 ?_
    refine s_istore_nT (lv' := fun x3 => [(2, .int x3), (0, .ref b0), (1, .int v1), (3, .int v3)]) (pc := 23) dX0_countQuarrels_23 (by decide) (fun _ => rfl) (fun x3 => ?_)
    refine s_iincT (pc := 24) 3 (lv' := fun x4 => [(3, .int x4), (2, .int x3), (0, .ref b0), (1, .int v1)]) dX0_countQuarrels_24 rfl rfl (by decide) (fun _ => rfl) (fun x4 => ?_)
    refine s_goto (tgt := 4) (pc := 27) dX0_countQuarrels_27 (by decide) ?_
    refine s_sub [2, 3, 1, 0] rfl ?_
    exact s_ev (fun _ _ q => q)
def pX0_countQuarrels (s0 : RS) (a0 : Int32) : Option Int32 :=
  (a_loop (fun (q : Int32 × Int32) => X0_countQuarrels_b4 a0 q.1 q.2 s0) FU ((0 : Int32), (0 : Int32))).bind fun (t5 : Int32) =>
    some (t5 / (2 : Int32))
theorem pX0_countQuarrels_w (ho : xok [(0, b0)] h.2.1) (s0 : RS) (a0 : Int32) : aS l 2 MX0_countQuarrels n0 S0 (oΦ (fun (x : Int32) => ((some (.int x)), xw [(0, b0, f0, s0)] h))) 0 [(0, .ref b0), (1, .int a0)] [] (xw [(0, b0, f0, s0)] h) (pX0_countQuarrels s0 a0) := by
  unfold pX0_countQuarrels
  refine s_iconst (v := 0) (pc := 0) dX0_countQuarrels_0 (by decide) ?_
  refine s_istore_n (lv' := [(2, .int 0), (0, .ref b0), (1, .int a0)]) (pc := 1) dX0_countQuarrels_1 (by decide) rfl ?_
  refine s_iconst (v := 0) (pc := 2) dX0_countQuarrels_2 (by decide) ?_
  refine s_istore_n (lv' := [(3, .int 0), (2, .int 0), (0, .ref b0), (1, .int a0)]) (pc := 3) dX0_countQuarrels_3 (by decide) rfl ?_
  refine s_bind (Ψ := X0_countQuarrels_x4 l n0 S0 h b0 f0 a0 s0) ?_ ?_
  · refine s_sub [2, 3, 1, 0] rfl ?_
    exact s_loop (lvf := fun (q : Int32 × Int32) => [(0, .ref b0), (1, .int a0), (2, .int q.1), (3, .int q.2)]) (stf := fun _ => []) (hf := fun (q : Int32 × Int32) => xw [(0, b0, f0, s0)] h) (fun q => X0_countQuarrels_b4_ok ho a0 q.1 q.2 s0) FU ((0 : Int32), (0 : Int32))
  · intro t5 z r h' hz hr
    refine (?_ : aS l 2 MX0_countQuarrels n0 S0 (oΦ (fun (x : Int32) => ((some (.int x)), xw [(0, b0, f0, s0)] h))) 30 [(2, .int t5)] [] (xw [(0, b0, f0, s0)] h) _) z hz r h' hr
    refine s_iload_n (pc := 30) 0 dX0_countQuarrels_30 rfl ?_
    refine s_iconst (v := 2) (pc := 31) dX0_countQuarrels_31 (by decide) ?_
    refine s_idivC (pc := 32) dX0_countQuarrels_32 (by decide) ?_
    exact s_iret (pc := 33) dX0_countQuarrels_33 rfl (fun _ _ q => q)
theorem pX0_countQuarrels_ok (ho : xok [(0, b0)] h.2.1) (s0 : RS) (a0 : Int32) : ∀ x, pX0_countQuarrels s0 a0 = some x → aMet l 2 yX0_countQuarrels cX0_countQuarrels 4 (some .int) [.ref b0, .int a0] (xw [(0, b0, f0, s0)] h) (some (.int x)) (xw [(0, b0, f0, s0)] h) := fun x hx => a_meth (ini := false) (y := yX0_countQuarrels) (by decide +kernel) (fun q => by cases q) (fun _ => Nat.le_of_ble_eq_true rfl) (pX0_countQuarrels_w ho s0 a0) x hx _ _ ⟨rfl, rfl⟩
end
section
variable {l : Launch} {n0 S0 : Nat} {h : aH} {b0 : Nat} {f0 : Nat → Option Nat}
abbrev MX0_mostQuarrelling : aM := (cX0_mostQuarrelling, RX0, 6, (some .int), false)
def X0_mostQuarrelling_x7 (l : Launch) (n0 S0 : Nat) (h : aH) (b0 : Nat) (f0 : Nat → Option Nat) (v1 : Int32) (s0 : RS) : Int32 → Option Value → aH → Prop := fun (x : Int32) r h' => aEv l 2 MX0_mostQuarrelling n0 S0 46 [(2, .int x)] [] (xw [(0, b0, f0, s0)] h) r h'
def X0_mostQuarrelling_j40 (v1 : Int32) (v2 : Int32) (v3 : Int32) (v4 : Int32) (s0 : RS) : Option ((Int32 × Int32 × Int32) ⊕ Int32) :=
  thn (v4 + 1) fun x3 =>
  some (.inl (v2, v3, x3))
theorem X0_mostQuarrelling_j40_ok (ho : xok [(0, b0)] h.2.1) (v1 : Int32) (v2 : Int32) (v3 : Int32) (v4 : Int32) (s0 : RS) : aS l 2 MX0_mostQuarrelling n0 S0 (a_LΦ (X0_mostQuarrelling_x7 l n0 S0 h b0 f0 v1 s0) l 2 MX0_mostQuarrelling n0 S0 7 (fun (q : Int32 × Int32 × Int32) => [(0, .ref b0), (1, .int v1), (2, .int q.1), (3, .int q.2.1), (4, .int q.2.2)]) (fun _ => []) (fun (q : Int32 × Int32 × Int32) => xw [(0, b0, f0, s0)] h)) 40 [(0, .ref b0), (1, .int v1), (2, .int v2), (3, .int v3), (4, .int v4)] [] (xw [(0, b0, f0, s0)] h) (X0_mostQuarrelling_j40 v1 v2 v3 v4 s0) := by
  unfold X0_mostQuarrelling_j40
  refine s_iincT (pc := 40) 4 (lv' := fun x3 => [(4, .int x3), (0, .ref b0), (1, .int v1), (2, .int v2), (3, .int v3)]) dX0_mostQuarrelling_40 rfl rfl (by decide) (fun _ => rfl) (fun x3 => ?_)
  refine s_goto (tgt := 7) (pc := 43) dX0_mostQuarrelling_43 (by decide) ?_
  refine s_sub [1, 2, 3, 4, 0] rfl ?_
  exact s_ev (fun _ _ q => q)
def X0_mostQuarrelling_b7 (v1 : Int32) (v2 : Int32) (v3 : Int32) (v4 : Int32) (s0 : RS) : Option ((Int32 × Int32 × Int32) ⊕ Int32) :=
  if (s0.1 1) ≤ v4 then
    some (.inr v2)
  else
    (pX0_quarrelersOf s0 v1 v4).bind fun x1 =>
    (pJ6_bitCount_0f7a4 x1).bind fun x2 =>
    if x2 ≤ v3 then
      X0_mostQuarrelling_j40 v1 v2 v3 v4 s0
    else
      X0_mostQuarrelling_j40 v1 v4 x2 v4 s0
theorem X0_mostQuarrelling_b7_ok (ho : xok [(0, b0)] h.2.1) (v1 : Int32) (v2 : Int32) (v3 : Int32) (v4 : Int32) (s0 : RS) : aS l 2 MX0_mostQuarrelling n0 S0 (a_LΦ (X0_mostQuarrelling_x7 l n0 S0 h b0 f0 v1 s0) l 2 MX0_mostQuarrelling n0 S0 7 (fun (q : Int32 × Int32 × Int32) => [(0, .ref b0), (1, .int v1), (2, .int q.1), (3, .int q.2.1), (4, .int q.2.2)]) (fun _ => []) (fun (q : Int32 × Int32 × Int32) => xw [(0, b0, f0, s0)] h)) 7 [(0, .ref b0), (1, .int v1), (2, .int v2), (3, .int v3), (4, .int v4)] [] (xw [(0, b0, f0, s0)] h) (X0_mostQuarrelling_b7 v1 v2 v3 v4 s0) := by
  unfold X0_mostQuarrelling_b7
  refine s_iload (pc := 7) 4 dX0_mostQuarrelling_7 rfl ?_
  refine s_aload_n (pc := 9) 0 dX0_mostQuarrelling_9 rfl ?_
  refine xg_X0_15 0 ho rfl (pc := 10) dX0_mostQuarrelling_10 rfl ?_
  refine s_icmp_ge (tgt := 46) (pc := 13) dX0_mostQuarrelling_13 (by decide) (fun _ => ?_) (fun _ => ?_)
  · refine s_sub [2] rfl ?_
    exact s_ev (fun _ _ q => q)
  · refine s_aload_n (pc := 16) 0 dX0_mostQuarrelling_16 rfl ?_
    refine s_iload_n (pc := 17) 1 dX0_mostQuarrelling_17 rfl ?_
    refine s_iload (pc := 18) 4 dX0_mostQuarrelling_18 rfl ?_
    refine x_callV (M := MX0_mostQuarrelling) (L := [(0, b0, f0, s0)]) (h := h) (j := 0) (As := [.int v1, .int v4]) (st := []) (A := fun (x : Int32) => some (.int x)) (Lc := [(0, b0, f0, s0)]) (Lr := fun (x : Int32) => [(0, b0, f0, s0)]) (L2 := fun (x : Int32) => [(0, b0, f0, s0)]) cv_X0_92 (by decide) (pc := 20) dX0_mostQuarrelling_20 ho rfl xc0_0 rfl rfl (Nat.le_of_ble_eq_true rfl) (xovs (L := [(0, b0, f0, s0)]) (h := h) [(0, (0, b0, f0, s0))] ho ⟨rfl, trivial⟩).1 (fun x => (xovs (L := [(0, b0, f0, s0)]) (h := h) [(0, (0, b0, f0, s0))] ho ⟨rfl, trivial⟩).1) (fun x hx => pX0_quarrelersOf_ok (h := xw [(0, b0, f0, s0)] h) (f0 := f0) (xok_sub ho [0] rfl (by decide)) s0 v1 v4 x hx) rfl (fun x1 _ => ?_)
    refine s_callS (M := MX0_mostQuarrelling) (As := [.int x1]) (st := []) (Ψ := fun (x : Int32) => (some (.int x), xw [(0, b0, f0, s0)] h)) cs_X0_83 (by decide) (pc := 23) dX0_mostQuarrelling_23 rfl (Nat.le_of_ble_eq_true rfl) (fun x hx => pJ6_bitCount_0f7a4_ok x1 x hx) rfl (fun x2 _ => ?_)
    refine s_istore (lv' := [(5, .int x2), (0, .ref b0), (1, .int v1), (2, .int v2), (3, .int v3), (4, .int v4)]) (pc := 26) dX0_mostQuarrelling_26 (by decide) rfl ?_
    refine s_iload (pc := 28) 0 dX0_mostQuarrelling_28 rfl ?_
    refine s_iload_n (pc := 30) 4 dX0_mostQuarrelling_30 rfl ?_
    refine s_icmp_le (tgt := 40) (pc := 31) dX0_mostQuarrelling_31 (by decide) (fun _ => ?_) (fun _ => ?_)
    · refine s_sub [1, 2, 3, 4, 5] rfl ?_
      exact X0_mostQuarrelling_j40_ok ho v1 v2 v3 v4 s0
    · refine s_iload (pc := 34) 0 dX0_mostQuarrelling_34 rfl ?_
      refine s_istore_n (lv' := [(3, .int x2), (5, .int x2), (0, .ref b0), (1, .int v1), (2, .int v2), (4, .int v4)]) (pc := 36) dX0_mostQuarrelling_36 (by decide) rfl ?_
      refine s_iload (pc := 37) 5 dX0_mostQuarrelling_37 rfl ?_
      refine s_istore_n (lv' := [(2, .int v4), (3, .int x2), (5, .int x2), (0, .ref b0), (1, .int v1), (4, .int v4)]) (pc := 39) dX0_mostQuarrelling_39 (by decide) rfl ?_
      refine s_sub [3, 4, 0, 1, 5] rfl ?_
      exact X0_mostQuarrelling_j40_ok ho v1 v4 x2 v4 s0
def pX0_mostQuarrelling (s0 : RS) (a0 : Int32) : Option Int32 :=
  (a_loop (fun (q : Int32 × Int32 × Int32) => X0_mostQuarrelling_b7 a0 q.1 q.2.1 q.2.2 s0) FU ((-1 : Int32), (0 : Int32), (0 : Int32))).bind fun (t4 : Int32) =>
    some t4
theorem pX0_mostQuarrelling_w (ho : xok [(0, b0)] h.2.1) (s0 : RS) (a0 : Int32) : aS l 2 MX0_mostQuarrelling n0 S0 (oΦ (fun (x : Int32) => ((some (.int x)), xw [(0, b0, f0, s0)] h))) 0 [(0, .ref b0), (1, .int a0)] [] (xw [(0, b0, f0, s0)] h) (pX0_mostQuarrelling s0 a0) := by
  unfold pX0_mostQuarrelling
  refine s_iconst (v := (-1)) (pc := 0) dX0_mostQuarrelling_0 (by decide) ?_
  refine s_istore_n (lv' := [(2, .int (-1)), (0, .ref b0), (1, .int a0)]) (pc := 1) dX0_mostQuarrelling_1 (by decide) rfl ?_
  refine s_iconst (v := 0) (pc := 2) dX0_mostQuarrelling_2 (by decide) ?_
  refine s_istore_n (lv' := [(3, .int 0), (2, .int (-1)), (0, .ref b0), (1, .int a0)]) (pc := 3) dX0_mostQuarrelling_3 (by decide) rfl ?_
  refine s_iconst (v := 0) (pc := 4) dX0_mostQuarrelling_4 (by decide) ?_
  refine s_istore (lv' := [(4, .int 0), (3, .int 0), (2, .int (-1)), (0, .ref b0), (1, .int a0)]) (pc := 5) dX0_mostQuarrelling_5 (by decide) rfl ?_
  refine s_bind (Ψ := X0_mostQuarrelling_x7 l n0 S0 h b0 f0 a0 s0) ?_ ?_
  · refine s_sub [3, 4, 2, 1, 0] rfl ?_
    exact s_loop (lvf := fun (q : Int32 × Int32 × Int32) => [(0, .ref b0), (1, .int a0), (2, .int q.1), (3, .int q.2.1), (4, .int q.2.2)]) (stf := fun _ => []) (hf := fun (q : Int32 × Int32 × Int32) => xw [(0, b0, f0, s0)] h) (fun q => X0_mostQuarrelling_b7_ok ho a0 q.1 q.2.1 q.2.2 s0) FU ((-1 : Int32), (0 : Int32), (0 : Int32))
  · intro t4 z r h' hz hr
    refine (?_ : aS l 2 MX0_mostQuarrelling n0 S0 (oΦ (fun (x : Int32) => ((some (.int x)), xw [(0, b0, f0, s0)] h))) 46 [(2, .int t4)] [] (xw [(0, b0, f0, s0)] h) _) z hz r h' hr
    refine s_iload_n (pc := 46) 0 dX0_mostQuarrelling_46 rfl ?_
    exact s_iret (pc := 47) dX0_mostQuarrelling_47 rfl (fun _ _ q => q)
theorem pX0_mostQuarrelling_ok (ho : xok [(0, b0)] h.2.1) (s0 : RS) (a0 : Int32) : ∀ x, pX0_mostQuarrelling s0 a0 = some x → aMet l 2 yX0_mostQuarrelling cX0_mostQuarrelling 6 (some .int) [.ref b0, .int a0] (xw [(0, b0, f0, s0)] h) (some (.int x)) (xw [(0, b0, f0, s0)] h) := fun x hx => a_meth (ini := false) (y := yX0_mostQuarrelling) (by decide +kernel) (fun q => by cases q) (fun _ => Nat.le_of_ble_eq_true rfl) (pX0_mostQuarrelling_w ho s0 a0) x hx _ _ ⟨rfl, rfl⟩
end
section
variable {l : Launch} {n0 S0 : Nat} {h : aH} {b0 : Nat} {f0 : Nat → Option Nat}
abbrev MX0_quarrelAlike : aM := (cX0_quarrelAlike, RX0, 4, (some .boolean), false)
def X0_quarrelAlike_x2 (l : Launch) (n0 S0 : Nat) (h : aH) (b0 : Nat) (f0 : Nat → Option Nat) (v1 : Int32) (v2 : Int32) (s0 : RS) : (Unit ⊕ Unit) → Option Value → aH → Prop := Sum.elim (fun (x : Unit) (r : Option Value) (h' : aH) => aEv l 2 MX0_quarrelAlike n0 S0 25 [] [] (xw [(0, b0, f0, s0)] h) r h') (fun (x : Unit) (r : Option Value) (h' : aH) => aEv l 2 MX0_quarrelAlike n0 S0 33 [] [] (xw [(0, b0, f0, s0)] h) r h')
def X0_quarrelAlike_b2 (v1 : Int32) (v2 : Int32) (v3 : Int32) (s0 : RS) : Option (Int32 ⊕ (Unit ⊕ Unit)) :=
  if (s0.1 1) ≤ v3 then
    some (.inr (.inr ()))
  else
    (pX0_quarrelersOf s0 v1 v3).bind fun x1 =>
    (pX0_quarrelersOf s0 v2 v3).bind fun x2 =>
    if x1 = x2 then
      thn (v3 + 1) fun x3 =>
      some (.inl x3)
    else
      some (.inr (.inl ()))
theorem X0_quarrelAlike_b2_ok (ho : xok [(0, b0)] h.2.1) (v1 : Int32) (v2 : Int32) (v3 : Int32) (s0 : RS) : aS l 2 MX0_quarrelAlike n0 S0 (a_LΦ (X0_quarrelAlike_x2 l n0 S0 h b0 f0 v1 v2 s0) l 2 MX0_quarrelAlike n0 S0 2 (fun (q : Int32) => [(0, .ref b0), (1, .int v1), (2, .int v2), (3, .int q)]) (fun _ => []) (fun (q : Int32) => xw [(0, b0, f0, s0)] h)) 2 [(0, .ref b0), (1, .int v1), (2, .int v2), (3, .int v3)] [] (xw [(0, b0, f0, s0)] h) (X0_quarrelAlike_b2 v1 v2 v3 s0) := by
  unfold X0_quarrelAlike_b2
  refine s_iload_n (pc := 2) 3 dX0_quarrelAlike_2 rfl ?_
  refine s_aload_n (pc := 3) 0 dX0_quarrelAlike_3 rfl ?_
  refine xg_X0_15 0 ho rfl (pc := 4) dX0_quarrelAlike_4 rfl ?_
  refine s_icmp_ge (tgt := 33) (pc := 7) dX0_quarrelAlike_7 (by decide) (fun _ => ?_) (fun _ => ?_)
  · refine s_sub [] rfl ?_
    exact s_ev (fun _ _ q => q)
  · refine s_aload_n (pc := 10) 0 dX0_quarrelAlike_10 rfl ?_
    refine s_iload_n (pc := 11) 1 dX0_quarrelAlike_11 rfl ?_
    refine s_iload_n (pc := 12) 3 dX0_quarrelAlike_12 rfl ?_
    refine x_callV (M := MX0_quarrelAlike) (L := [(0, b0, f0, s0)]) (h := h) (j := 0) (As := [.int v1, .int v3]) (st := []) (A := fun (x : Int32) => some (.int x)) (Lc := [(0, b0, f0, s0)]) (Lr := fun (x : Int32) => [(0, b0, f0, s0)]) (L2 := fun (x : Int32) => [(0, b0, f0, s0)]) cv_X0_92 (by decide) (pc := 13) dX0_quarrelAlike_13 ho rfl xc0_0 rfl rfl (Nat.le_of_ble_eq_true rfl) (xovs (L := [(0, b0, f0, s0)]) (h := h) [(0, (0, b0, f0, s0))] ho ⟨rfl, trivial⟩).1 (fun x => (xovs (L := [(0, b0, f0, s0)]) (h := h) [(0, (0, b0, f0, s0))] ho ⟨rfl, trivial⟩).1) (fun x hx => pX0_quarrelersOf_ok (h := xw [(0, b0, f0, s0)] h) (f0 := f0) (xok_sub ho [0] rfl (by decide)) s0 v1 v3 x hx) rfl (fun x1 _ => ?_)
    refine s_aload_n (pc := 16) 0 dX0_quarrelAlike_16 rfl ?_
    refine s_iload_n (pc := 17) 2 dX0_quarrelAlike_17 rfl ?_
    refine s_iload_n (pc := 18) 3 dX0_quarrelAlike_18 rfl ?_
    refine x_callV (M := MX0_quarrelAlike) (L := [(0, b0, f0, s0)]) (h := h) (j := 0) (As := [.int v2, .int v3]) (st := [.int x1]) (A := fun (x : Int32) => some (.int x)) (Lc := [(0, b0, f0, s0)]) (Lr := fun (x : Int32) => [(0, b0, f0, s0)]) (L2 := fun (x : Int32) => [(0, b0, f0, s0)]) cv_X0_92 (by decide) (pc := 19) dX0_quarrelAlike_19 ho rfl xc0_0 rfl rfl (Nat.le_of_ble_eq_true rfl) (xovs (L := [(0, b0, f0, s0)]) (h := h) [(0, (0, b0, f0, s0))] ho ⟨rfl, trivial⟩).1 (fun x => (xovs (L := [(0, b0, f0, s0)]) (h := h) [(0, (0, b0, f0, s0))] ho ⟨rfl, trivial⟩).1) (fun x hx => pX0_quarrelersOf_ok (h := xw [(0, b0, f0, s0)] h) (f0 := f0) (xok_sub ho [0] rfl (by decide)) s0 v2 v3 x hx) rfl (fun x2 _ => ?_)
    refine s_icmp_eq (tgt := 27) (pc := 22) dX0_quarrelAlike_22 (by decide) (fun _ => ?_) (fun _ => ?_)
    · refine s_iincT (pc := 27) 3 (lv' := fun x3 => [(3, .int x3), (0, .ref b0), (1, .int v1), (2, .int v2)]) dX0_quarrelAlike_27 rfl rfl (by decide) (fun _ => rfl) (fun x3 => ?_)
      refine s_goto (tgt := 2) (pc := 30) dX0_quarrelAlike_30 (by decide) ?_
      refine s_sub [1, 2, 3, 0] rfl ?_
      exact s_ev (fun _ _ q => q)
    · refine s_sub [] rfl ?_
      exact s_ev (fun _ _ q => q)
def pX0_quarrelAlike (s0 : RS) (a0 : Int32) (a1 : Int32) : Option Bool :=
  (a_loop (fun (q : Int32) => X0_quarrelAlike_b2 a0 a1 q s0) FU (0 : Int32)).bind (Sum.elim (fun (t4 : Unit) =>
      some false)
    (fun (t5 : Unit) =>
      some true))
theorem pX0_quarrelAlike_w (ho : xok [(0, b0)] h.2.1) (s0 : RS) (a0 : Int32) (a1 : Int32) : aS l 2 MX0_quarrelAlike n0 S0 (oΦ (fun (x : Bool) => ((some (.int (b2i x))), xw [(0, b0, f0, s0)] h))) 0 [(0, .ref b0), (1, .int a0), (2, .int a1)] [] (xw [(0, b0, f0, s0)] h) (pX0_quarrelAlike s0 a0 a1) := by
  unfold pX0_quarrelAlike
  refine s_iconst (v := 0) (pc := 0) dX0_quarrelAlike_0 (by decide) ?_
  refine s_istore_n (lv' := [(3, .int 0), (0, .ref b0), (1, .int a0), (2, .int a1)]) (pc := 1) dX0_quarrelAlike_1 (by decide) rfl ?_
  refine s_bind (Ψ := X0_quarrelAlike_x2 l n0 S0 h b0 f0 a0 a1 s0) ?_ ?_
  · refine s_sub [1, 2, 3, 0] rfl ?_
    exact s_loop (lvf := fun (q : Int32) => [(0, .ref b0), (1, .int a0), (2, .int a1), (3, .int q)]) (stf := fun _ => []) (hf := fun (q : Int32) => xw [(0, b0, f0, s0)] h) (fun q => X0_quarrelAlike_b2_ok ho a0 a1 q s0) FU (0 : Int32)
  · intro x z r h' hz hr
    rcases x with t4 | t5
    · refine (?_ : aS l 2 MX0_quarrelAlike n0 S0 (oΦ (fun (x : Bool) => ((some (.int (b2i x))), xw [(0, b0, f0, s0)] h))) 25 [] [] (xw [(0, b0, f0, s0)] h) _) z (show _ = some z from hz) r h' hr
      refine s_iconst (v := 0) (pc := 25) dX0_quarrelAlike_25 (by decide) ?_
      exact s_zretB (b := false) (pc := 26) dX0_quarrelAlike_26 rfl (fun _ _ q => q)
    · refine (?_ : aS l 2 MX0_quarrelAlike n0 S0 (oΦ (fun (x : Bool) => ((some (.int (b2i x))), xw [(0, b0, f0, s0)] h))) 33 [] [] (xw [(0, b0, f0, s0)] h) _) z (show _ = some z from hz) r h' hr
      refine s_iconst (v := 1) (pc := 33) dX0_quarrelAlike_33 (by decide) ?_
      exact s_zretB (b := true) (pc := 34) dX0_quarrelAlike_34 rfl (fun _ _ q => q)
theorem pX0_quarrelAlike_ok (ho : xok [(0, b0)] h.2.1) (s0 : RS) (a0 : Int32) (a1 : Int32) : ∀ x, pX0_quarrelAlike s0 a0 a1 = some x → aMet l 2 yX0_quarrelAlike cX0_quarrelAlike 4 (some .boolean) [.ref b0, .int a0, .int a1] (xw [(0, b0, f0, s0)] h) (some (.int (b2i x))) (xw [(0, b0, f0, s0)] h) := fun x hx => a_meth (ini := false) (y := yX0_quarrelAlike) (by decide +kernel) (fun q => by cases q) (fun _ => Nat.le_of_ble_eq_true rfl) (pX0_quarrelAlike_w ho s0 a0 a1) x hx _ _ ⟨rfl, rfl⟩
end
section
variable {l : Launch} {n0 S0 : Nat} {h : aH} {b0 : Nat} {f0 : Nat → Option Nat}
abbrev MX0_leftOutIn : aM := (cX0_leftOutIn, RX0, 4, (some .int), false)
def X0_leftOutIn_x4 (l : Launch) (n0 S0 : Nat) (h : aH) (b0 : Nat) (f0 : Nat → Option Nat) (v1 : Int32) (s0 : RS) : Int32 → Option Value → aH → Prop := fun (x : Int32) r h' => aEv l 1 MX0_leftOutIn n0 S0 42 [(2, .int x)] [] (xw [(0, b0, f0, s0)] h) r h'
def X0_leftOutIn_j36 (v1 : Int32) (v2 : Int32) (v3 : Int32) (s0 : RS) : Option ((Int32 × Int32) ⊕ Int32) :=
  thn (v3 + 1) fun x2 =>
  some (.inl (v2, x2))
theorem X0_leftOutIn_j36_ok (ho : xok [(0, b0)] h.2.1) (v1 : Int32) (v2 : Int32) (v3 : Int32) (s0 : RS) : aS l 1 MX0_leftOutIn n0 S0 (a_LΦ (X0_leftOutIn_x4 l n0 S0 h b0 f0 v1 s0) l 1 MX0_leftOutIn n0 S0 4 (fun (q : Int32 × Int32) => [(0, .ref b0), (1, .int v1), (2, .int q.1), (3, .int q.2)]) (fun _ => []) (fun (q : Int32 × Int32) => xw [(0, b0, f0, s0)] h)) 36 [(0, .ref b0), (1, .int v1), (2, .int v2), (3, .int v3)] [] (xw [(0, b0, f0, s0)] h) (X0_leftOutIn_j36 v1 v2 v3 s0) := by
  unfold X0_leftOutIn_j36
  refine s_iincT (pc := 36) 3 (lv' := fun x2 => [(3, .int x2), (0, .ref b0), (1, .int v1), (2, .int v2)]) dX0_leftOutIn_36 rfl rfl (by decide) (fun _ => rfl) (fun x2 => ?_)
  refine s_goto (tgt := 4) (pc := 39) dX0_leftOutIn_39 (by decide) ?_
  refine s_sub [1, 2, 3, 0] rfl ?_
  exact s_ev (fun _ _ q => q)
def X0_leftOutIn_b4 (v1 : Int32) (v2 : Int32) (v3 : Int32) (s0 : RS) : Option ((Int32 × Int32) ⊕ Int32) :=
  if (s0.1 1) ≤ v3 then
    some (.inr v2)
  else
    (pX0_isIn ((s0.1 15) &&& v1) v3).bind fun x1 =>
    if x1 = true then
      g_in v3 16 (
      thn (v2 ||| ((1 : Int32) <<< ((s0.2.2.1 14 v3.toNatClampNeg) &&& 31))) fun x3 =>
      X0_leftOutIn_j36 v1 x3 v3 s0)
    else
      X0_leftOutIn_j36 v1 v2 v3 s0
theorem X0_leftOutIn_b4_ok (ho : xok [(0, b0)] h.2.1) (v1 : Int32) (v2 : Int32) (v3 : Int32) (s0 : RS) : aS l 1 MX0_leftOutIn n0 S0 (a_LΦ (X0_leftOutIn_x4 l n0 S0 h b0 f0 v1 s0) l 1 MX0_leftOutIn n0 S0 4 (fun (q : Int32 × Int32) => [(0, .ref b0), (1, .int v1), (2, .int q.1), (3, .int q.2)]) (fun _ => []) (fun (q : Int32 × Int32) => xw [(0, b0, f0, s0)] h)) 4 [(0, .ref b0), (1, .int v1), (2, .int v2), (3, .int v3)] [] (xw [(0, b0, f0, s0)] h) (X0_leftOutIn_b4 v1 v2 v3 s0) := by
  unfold X0_leftOutIn_b4
  refine s_iload_n (pc := 4) 3 dX0_leftOutIn_4 rfl ?_
  refine s_aload_n (pc := 5) 0 dX0_leftOutIn_5 rfl ?_
  refine xg_X0_15 0 ho rfl (pc := 6) dX0_leftOutIn_6 rfl ?_
  refine s_icmp_ge (tgt := 42) (pc := 9) dX0_leftOutIn_9 (by decide) (fun _ => ?_) (fun _ => ?_)
  · refine s_sub [2] rfl ?_
    exact s_ev (fun _ _ q => q)
  · refine s_aload_n (pc := 12) 0 dX0_leftOutIn_12 rfl ?_
    refine xg_X0_59 0 ho rfl (pc := 13) dX0_leftOutIn_13 rfl ?_
    refine s_iload_n (pc := 16) 1 dX0_leftOutIn_16 rfl ?_
    refine s_iand (pc := 17) dX0_leftOutIn_17 ?_
    refine s_iload_n (pc := 18) 3 dX0_leftOutIn_18 rfl ?_
    refine s_callS (M := MX0_leftOutIn) (As := [.int ((s0.1 15) &&& v1), .int v3]) (st := []) (Ψ := fun (x : Bool) => (some (.int (b2i x)), xw [(0, b0, f0, s0)] h)) cs_X0_70 (by decide) (pc := 19) dX0_leftOutIn_19 rfl (Nat.le_of_ble_eq_true rfl) (fun x hx => pX0_isIn_ok ((s0.1 15) &&& v1) v3 x hx) rfl (fun x1 _ => ?_)
    refine s_if_eqB (tgt := 36) (pc := 22) dX0_leftOutIn_22 (by decide) (fun _ => ?_) (fun _ => ?_)
    · refine s_iload_n (pc := 25) 2 dX0_leftOutIn_25 rfl ?_
      refine s_iconst (v := 1) (pc := 26) dX0_leftOutIn_26 (by decide) ?_
      refine s_aload_n (pc := 27) 0 dX0_leftOutIn_27 rfl ?_
      refine xg_X0_56 0 ho rfl (pc := 28) dX0_leftOutIn_28 rfl ?_
      refine s_iload_n (pc := 31) 3 dX0_leftOutIn_31 rfl ?_
      refine xl_0_14 0 ho rfl (pc := 32) dX0_leftOutIn_32 ?_
      refine s_ishl (pc := 33) dX0_leftOutIn_33 ?_
      refine s_ior (pc := 34) dX0_leftOutIn_34 ?_
      refine s_istore_nT (lv' := fun x3 => [(2, .int x3), (0, .ref b0), (1, .int v1), (3, .int v3)]) (pc := 35) dX0_leftOutIn_35 (by decide) (fun _ => rfl) (fun x3 => ?_)
      refine s_sub [1, 2, 0, 3] rfl ?_
      exact X0_leftOutIn_j36_ok ho v1 x3 v3 s0
    · exact X0_leftOutIn_j36_ok ho v1 v2 v3 s0
def pX0_leftOutIn (s0 : RS) (a0 : Int32) : Option Int32 :=
  (a_loop (fun (q : Int32 × Int32) => X0_leftOutIn_b4 a0 q.1 q.2 s0) FU ((0 : Int32), (0 : Int32))).bind fun (t4 : Int32) =>
    some t4
theorem pX0_leftOutIn_w (ho : xok [(0, b0)] h.2.1) (s0 : RS) (a0 : Int32) : aS l 1 MX0_leftOutIn n0 S0 (oΦ (fun (x : Int32) => ((some (.int x)), xw [(0, b0, f0, s0)] h))) 0 [(0, .ref b0), (1, .int a0)] [] (xw [(0, b0, f0, s0)] h) (pX0_leftOutIn s0 a0) := by
  unfold pX0_leftOutIn
  refine s_iconst (v := 0) (pc := 0) dX0_leftOutIn_0 (by decide) ?_
  refine s_istore_n (lv' := [(2, .int 0), (0, .ref b0), (1, .int a0)]) (pc := 1) dX0_leftOutIn_1 (by decide) rfl ?_
  refine s_iconst (v := 0) (pc := 2) dX0_leftOutIn_2 (by decide) ?_
  refine s_istore_n (lv' := [(3, .int 0), (2, .int 0), (0, .ref b0), (1, .int a0)]) (pc := 3) dX0_leftOutIn_3 (by decide) rfl ?_
  refine s_bind (Ψ := X0_leftOutIn_x4 l n0 S0 h b0 f0 a0 s0) ?_ ?_
  · refine s_sub [2, 3, 1, 0] rfl ?_
    exact s_loop (lvf := fun (q : Int32 × Int32) => [(0, .ref b0), (1, .int a0), (2, .int q.1), (3, .int q.2)]) (stf := fun _ => []) (hf := fun (q : Int32 × Int32) => xw [(0, b0, f0, s0)] h) (fun q => X0_leftOutIn_b4_ok ho a0 q.1 q.2 s0) FU ((0 : Int32), (0 : Int32))
  · intro t4 z r h' hz hr
    refine (?_ : aS l 1 MX0_leftOutIn n0 S0 (oΦ (fun (x : Int32) => ((some (.int x)), xw [(0, b0, f0, s0)] h))) 42 [(2, .int t4)] [] (xw [(0, b0, f0, s0)] h) _) z hz r h' hr
    refine s_iload_n (pc := 42) 0 dX0_leftOutIn_42 rfl ?_
    exact s_iret (pc := 43) dX0_leftOutIn_43 rfl (fun _ _ q => q)
theorem pX0_leftOutIn_ok (ho : xok [(0, b0)] h.2.1) (s0 : RS) (a0 : Int32) : ∀ x, pX0_leftOutIn s0 a0 = some x → aMet l 1 yX0_leftOutIn cX0_leftOutIn 4 (some .int) [.ref b0, .int a0] (xw [(0, b0, f0, s0)] h) (some (.int x)) (xw [(0, b0, f0, s0)] h) := fun x hx => a_meth (ini := false) (y := yX0_leftOutIn) (by decide +kernel) (fun q => by cases q) (fun _ => Nat.le_of_ble_eq_true rfl) (pX0_leftOutIn_w ho s0 a0) x hx _ _ ⟨rfl, rfl⟩
end
