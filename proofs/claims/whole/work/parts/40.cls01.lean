section
variable {l : Launch} {n0 S0 : Nat} {h : aH} {b0 : Nat} {f0 : Nat → Option Nat}
abbrev MX0_ofThing : aM := (cX0_ofThing, RX0, 6, (some .int), false)
def X0_ofThing_x6 (l : Launch) (n0 S0 : Nat) (h : aH) (b0 : Nat) (f0 : Nat → Option Nat) (v1 : Int32) (v2 : Int32) (v3 : Int32) (s0 : RS) : Int32 → Option Value → aH → Prop := fun (x : Int32) r h' => aEv l 1 MX0_ofThing n0 S0 61 [(4, .int x)] [] (xw [(0, b0, f0, s0)] h) r h'
def X0_ofThing_j55 (v1 : Int32) (v2 : Int32) (v3 : Int32) (v4 : Int32) (v5 : Int32) (s0 : RS) : Option ((Int32 × Int32) ⊕ Int32) :=
  thn (v5 + 1) fun x2 =>
  some (.inl (v4, x2))
theorem X0_ofThing_j55_ok (ho : xok [(0, b0)] h.2.1) (v1 : Int32) (v2 : Int32) (v3 : Int32) (v4 : Int32) (v5 : Int32) (s0 : RS) : aS l 1 MX0_ofThing n0 S0 (a_LΦ (X0_ofThing_x6 l n0 S0 h b0 f0 v1 v2 v3 s0) l 1 MX0_ofThing n0 S0 6 (fun (q : Int32 × Int32) => [(0, .ref b0), (1, .int v1), (2, .int v2), (3, .int v3), (4, .int q.1), (5, .int q.2)]) (fun _ => []) (fun (q : Int32 × Int32) => xw [(0, b0, f0, s0)] h)) 55 [(0, .ref b0), (1, .int v1), (2, .int v2), (3, .int v3), (4, .int v4), (5, .int v5)] [] (xw [(0, b0, f0, s0)] h) (X0_ofThing_j55 v1 v2 v3 v4 v5 s0) := by
  unfold X0_ofThing_j55
  refine s_iincT (pc := 55) 5 (lv' := fun x2 => [(5, .int x2), (0, .ref b0), (1, .int v1), (2, .int v2), (3, .int v3), (4, .int v4)]) dX0_ofThing_55 rfl rfl (by decide) (fun _ => rfl) (fun x2 => ?_)
  refine s_goto (tgt := 6) (pc := 58) dX0_ofThing_58 (by decide) ?_
  refine s_sub [1, 2, 3, 4, 5, 0] rfl ?_
  exact s_ev (fun _ _ q => q)
def X0_ofThing_b6 (v1 : Int32) (v2 : Int32) (v3 : Int32) (v4 : Int32) (v5 : Int32) (s0 : RS) : Option ((Int32 × Int32) ⊕ Int32) :=
  if (s0.1 1) ≤ v5 then
    some (.inr v4)
  else
    (pX0_isIn v1 v5).bind fun x1 =>
    if x1 = true then
      g_in v5 16 (
      if (s0.2.2.1 4 v5.toNatClampNeg) = v3 then
        g_in v5 16 (
        if (s0.2.2.1 7 v5.toNatClampNeg) = v2 then
          thn (v4 ||| ((1 : Int32) <<< (v5 &&& 31))) fun x3 =>
          X0_ofThing_j55 v1 v2 v3 x3 v5 s0
        else
          X0_ofThing_j55 v1 v2 v3 v4 v5 s0)
      else
        X0_ofThing_j55 v1 v2 v3 v4 v5 s0)
    else
      X0_ofThing_j55 v1 v2 v3 v4 v5 s0
theorem X0_ofThing_b6_ok (ho : xok [(0, b0)] h.2.1) (v1 : Int32) (v2 : Int32) (v3 : Int32) (v4 : Int32) (v5 : Int32) (s0 : RS) : aS l 1 MX0_ofThing n0 S0 (a_LΦ (X0_ofThing_x6 l n0 S0 h b0 f0 v1 v2 v3 s0) l 1 MX0_ofThing n0 S0 6 (fun (q : Int32 × Int32) => [(0, .ref b0), (1, .int v1), (2, .int v2), (3, .int v3), (4, .int q.1), (5, .int q.2)]) (fun _ => []) (fun (q : Int32 × Int32) => xw [(0, b0, f0, s0)] h)) 6 [(0, .ref b0), (1, .int v1), (2, .int v2), (3, .int v3), (4, .int v4), (5, .int v5)] [] (xw [(0, b0, f0, s0)] h) (X0_ofThing_b6 v1 v2 v3 v4 v5 s0) := by
  unfold X0_ofThing_b6
  refine s_iload (pc := 6) 5 dX0_ofThing_6 rfl ?_
  refine s_aload_n (pc := 8) 0 dX0_ofThing_8 rfl ?_
  refine xg_X0_15 0 ho rfl (pc := 9) dX0_ofThing_9 rfl ?_
  refine s_icmp_ge (tgt := 61) (pc := 12) dX0_ofThing_12 (by decide) (fun _ => ?_) (fun _ => ?_)
  · refine s_sub [4] rfl ?_
    exact s_ev (fun _ _ q => q)
  · refine s_iload_n (pc := 15) 1 dX0_ofThing_15 rfl ?_
    refine s_iload (pc := 16) 5 dX0_ofThing_16 rfl ?_
    refine s_callS (M := MX0_ofThing) (As := [.int v1, .int v5]) (st := []) (Ψ := fun (x : Bool) => (some (.int (b2i x)), xw [(0, b0, f0, s0)] h)) cs_X0_70 (by decide) (pc := 18) dX0_ofThing_18 rfl (Nat.le_of_ble_eq_true rfl) (fun x hx => pX0_isIn_ok v1 v5 x hx) rfl (fun x1 _ => ?_)
    refine s_if_eqB (tgt := 55) (pc := 21) dX0_ofThing_21 (by decide) (fun _ => ?_) (fun _ => ?_)
    · refine s_aload_n (pc := 24) 0 dX0_ofThing_24 rfl ?_
      refine xg_X0_25 0 ho rfl (pc := 25) dX0_ofThing_25 rfl ?_
      refine s_iload (pc := 28) 5 dX0_ofThing_28 rfl ?_
      refine xl_0_4 0 ho rfl (pc := 30) dX0_ofThing_30 ?_
      refine s_iload_n (pc := 31) 3 dX0_ofThing_31 rfl ?_
      refine s_icmp_ne (tgt := 55) (pc := 32) dX0_ofThing_32 (by decide) (fun _ => ?_) (fun _ => ?_)
      · refine s_aload_n (pc := 35) 0 dX0_ofThing_35 rfl ?_
        refine xg_X0_35 0 ho rfl (pc := 36) dX0_ofThing_36 rfl ?_
        refine s_iload (pc := 39) 5 dX0_ofThing_39 rfl ?_
        refine xl_0_7 0 ho rfl (pc := 41) dX0_ofThing_41 ?_
        refine s_iload_n (pc := 42) 2 dX0_ofThing_42 rfl ?_
        refine s_icmp_ne (tgt := 55) (pc := 43) dX0_ofThing_43 (by decide) (fun _ => ?_) (fun _ => ?_)
        · refine s_iload (pc := 46) 4 dX0_ofThing_46 rfl ?_
          refine s_iconst (v := 1) (pc := 48) dX0_ofThing_48 (by decide) ?_
          refine s_iload (pc := 49) 5 dX0_ofThing_49 rfl ?_
          refine s_ishl (pc := 51) dX0_ofThing_51 ?_
          refine s_ior (pc := 52) dX0_ofThing_52 ?_
          refine s_istoreT (lv' := fun x3 => [(4, .int x3), (0, .ref b0), (1, .int v1), (2, .int v2), (3, .int v3), (5, .int v5)]) (pc := 53) dX0_ofThing_53 (by decide) (fun _ => rfl) (fun x3 => ?_)
          refine s_sub [1, 2, 3, 4, 0, 5] rfl ?_
          exact X0_ofThing_j55_ok ho v1 v2 v3 x3 v5 s0
        · exact X0_ofThing_j55_ok ho v1 v2 v3 v4 v5 s0
      · exact X0_ofThing_j55_ok ho v1 v2 v3 v4 v5 s0
    · exact X0_ofThing_j55_ok ho v1 v2 v3 v4 v5 s0
def pX0_ofThing (s0 : RS) (a0 : Int32) (a1 : Int32) (a2 : Int32) : Option Int32 :=
  (a_loop (fun (q : Int32 × Int32) => X0_ofThing_b6 a0 a1 a2 q.1 q.2 s0) FU ((0 : Int32), (0 : Int32))).bind fun (t4 : Int32) =>
    some t4
theorem pX0_ofThing_w (ho : xok [(0, b0)] h.2.1) (s0 : RS) (a0 : Int32) (a1 : Int32) (a2 : Int32) : aS l 1 MX0_ofThing n0 S0 (oΦ (fun (x : Int32) => ((some (.int x)), xw [(0, b0, f0, s0)] h))) 0 [(0, .ref b0), (1, .int a0), (2, .int a1), (3, .int a2)] [] (xw [(0, b0, f0, s0)] h) (pX0_ofThing s0 a0 a1 a2) := by
  unfold pX0_ofThing
  refine s_iconst (v := 0) (pc := 0) dX0_ofThing_0 (by decide) ?_
  refine s_istore (lv' := [(4, .int 0), (0, .ref b0), (1, .int a0), (2, .int a1), (3, .int a2)]) (pc := 1) dX0_ofThing_1 (by decide) rfl ?_
  refine s_iconst (v := 0) (pc := 3) dX0_ofThing_3 (by decide) ?_
  refine s_istore (lv' := [(5, .int 0), (4, .int 0), (0, .ref b0), (1, .int a0), (2, .int a1), (3, .int a2)]) (pc := 4) dX0_ofThing_4 (by decide) rfl ?_
  refine s_bind (Ψ := X0_ofThing_x6 l n0 S0 h b0 f0 a0 a1 a2 s0) ?_ ?_
  · refine s_sub [2, 3, 4, 5, 1, 0] rfl ?_
    exact s_loop (lvf := fun (q : Int32 × Int32) => [(0, .ref b0), (1, .int a0), (2, .int a1), (3, .int a2), (4, .int q.1), (5, .int q.2)]) (stf := fun _ => []) (hf := fun (q : Int32 × Int32) => xw [(0, b0, f0, s0)] h) (fun q => X0_ofThing_b6_ok ho a0 a1 a2 q.1 q.2 s0) FU ((0 : Int32), (0 : Int32))
  · intro t4 z r h' hz hr
    refine (?_ : aS l 1 MX0_ofThing n0 S0 (oΦ (fun (x : Int32) => ((some (.int x)), xw [(0, b0, f0, s0)] h))) 61 [(4, .int t4)] [] (xw [(0, b0, f0, s0)] h) _) z hz r h' hr
    refine s_iload (pc := 61) 0 dX0_ofThing_61 rfl ?_
    exact s_iret (pc := 63) dX0_ofThing_63 rfl (fun _ _ q => q)
theorem pX0_ofThing_ok (ho : xok [(0, b0)] h.2.1) (s0 : RS) (a0 : Int32) (a1 : Int32) (a2 : Int32) : ∀ x, pX0_ofThing s0 a0 a1 a2 = some x → aMet l 1 yX0_ofThing cX0_ofThing 6 (some .int) [.ref b0, .int a0, .int a1, .int a2] (xw [(0, b0, f0, s0)] h) (some (.int x)) (xw [(0, b0, f0, s0)] h) := fun x hx => a_meth (ini := false) (y := yX0_ofThing) (by decide +kernel) (fun q => by cases q) (fun _ => Nat.le_of_ble_eq_true rfl) (pX0_ofThing_w ho s0 a0 a1 a2) x hx _ _ ⟨rfl, rfl⟩
end
section
variable {l : Launch} {n0 S0 : Nat} {h : aH} {b0 : Nat} {f0 : Nat → Option Nat}
abbrev MX0_isGone : aM := (cX0_isGone, RX0, 6, (some .boolean), false)
def X0_isGone_x16 (l : Launch) (n0 S0 : Nat) (h : aH) (b0 : Nat) (f0 : Nat → Option Nat) (v1 : Int32) (v4 : Int32) (s0 : RS) : (Unit ⊕ Unit) → Option Value → aH → Prop := Sum.elim (fun (x : Unit) (r : Option Value) (h' : aH) => aEv l 2 MX0_isGone n0 S0 45 [] [] (xw [(0, b0, f0, s0)] h) r h') (fun (x : Unit) (r : Option Value) (h' : aH) => aEv l 2 MX0_isGone n0 S0 53 [] [] (xw [(0, b0, f0, s0)] h) r h')
def X0_isGone_j47 (v1 : Int32) (v4 : Int32) (v5 : Int32) (s0 : RS) : Option (Int32 ⊕ (Unit ⊕ Unit)) :=
  thn (v5 + 1) fun x3 =>
  some (.inl x3)
theorem X0_isGone_j47_ok (ho : xok [(0, b0)] h.2.1) (v1 : Int32) (v4 : Int32) (v5 : Int32) (s0 : RS) : aS l 2 MX0_isGone n0 S0 (a_LΦ (X0_isGone_x16 l n0 S0 h b0 f0 v1 v4 s0) l 2 MX0_isGone n0 S0 16 (fun (q : Int32) => [(0, .ref b0), (1, .int v1), (4, .int v4), (5, .int q)]) (fun _ => []) (fun (q : Int32) => xw [(0, b0, f0, s0)] h)) 47 [(0, .ref b0), (1, .int v1), (4, .int v4), (5, .int v5)] [] (xw [(0, b0, f0, s0)] h) (X0_isGone_j47 v1 v4 v5 s0) := by
  unfold X0_isGone_j47
  refine s_iincT (pc := 47) 3 (lv' := fun x3 => [(5, .int x3), (0, .ref b0), (1, .int v1), (4, .int v4)]) dX0_isGone_47 rfl rfl (by decide) (fun _ => rfl) (fun x3 => ?_)
  refine s_goto (tgt := 16) (pc := 50) dX0_isGone_50 (by decide) ?_
  refine s_sub [1, 2, 3, 0] rfl ?_
  exact s_ev (fun _ _ q => q)
def X0_isGone_b16 (v1 : Int32) (v4 : Int32) (v5 : Int32) (s0 : RS) : Option (Int32 ⊕ (Unit ⊕ Unit)) :=
  if (s0.1 1) ≤ v5 then
    some (.inr (.inr ()))
  else
    (pX0_isIn v4 v5).bind fun x2 =>
    if x2 = true then
      (pX0_quarrelersOf s0 v1 v5).bind fun x4 =>
      if x4 = 0 then
        some (.inr (.inl ()))
      else
        X0_isGone_j47 v1 v4 v5 s0
    else
      X0_isGone_j47 v1 v4 v5 s0
theorem X0_isGone_b16_ok (ho : xok [(0, b0)] h.2.1) (v1 : Int32) (v4 : Int32) (v5 : Int32) (s0 : RS) : aS l 2 MX0_isGone n0 S0 (a_LΦ (X0_isGone_x16 l n0 S0 h b0 f0 v1 v4 s0) l 2 MX0_isGone n0 S0 16 (fun (q : Int32) => [(0, .ref b0), (1, .int v1), (4, .int v4), (5, .int q)]) (fun _ => []) (fun (q : Int32) => xw [(0, b0, f0, s0)] h)) 16 [(0, .ref b0), (1, .int v1), (4, .int v4), (5, .int v5)] [] (xw [(0, b0, f0, s0)] h) (X0_isGone_b16 v1 v4 v5 s0) := by
  unfold X0_isGone_b16
  refine s_iload (pc := 16) 3 dX0_isGone_16 rfl ?_
  refine s_aload_n (pc := 18) 0 dX0_isGone_18 rfl ?_
  refine xg_X0_15 0 ho rfl (pc := 19) dX0_isGone_19 rfl ?_
  refine s_icmp_ge (tgt := 53) (pc := 22) dX0_isGone_22 (by decide) (fun _ => ?_) (fun _ => ?_)
  · refine s_sub [] rfl ?_
    exact s_ev (fun _ _ q => q)
  · refine s_iload (pc := 25) 2 dX0_isGone_25 rfl ?_
    refine s_iload (pc := 27) 3 dX0_isGone_27 rfl ?_
    refine s_callS (M := MX0_isGone) (As := [.int v4, .int v5]) (st := []) (Ψ := fun (x : Bool) => (some (.int (b2i x)), xw [(0, b0, f0, s0)] h)) cs_X0_70 (by decide) (pc := 29) dX0_isGone_29 rfl (Nat.le_of_ble_eq_true rfl) (fun x hx => pX0_isIn_ok v4 v5 x hx) rfl (fun x2 _ => ?_)
    refine s_if_eqB (tgt := 47) (pc := 32) dX0_isGone_32 (by decide) (fun _ => ?_) (fun _ => ?_)
    · refine s_aload_n (pc := 35) 0 dX0_isGone_35 rfl ?_
      refine s_iload_n (pc := 36) 1 dX0_isGone_36 rfl ?_
      refine s_iload (pc := 37) 3 dX0_isGone_37 rfl ?_
      refine x_callV (M := MX0_isGone) (L := [(0, b0, f0, s0)]) (h := h) (j := 0) (As := [.int v1, .int v5]) (st := []) (A := fun (x : Int32) => some (.int x)) (Lc := [(0, b0, f0, s0)]) (Lr := fun (x : Int32) => [(0, b0, f0, s0)]) (L2 := fun (x : Int32) => [(0, b0, f0, s0)]) cv_X0_92 (by decide) (pc := 39) dX0_isGone_39 ho rfl xc0_0 rfl rfl (Nat.le_of_ble_eq_true rfl) (xovs (L := [(0, b0, f0, s0)]) (h := h) [(0, (0, b0, f0, s0))] ho ⟨rfl, trivial⟩).1 (fun x => (xovs (L := [(0, b0, f0, s0)]) (h := h) [(0, (0, b0, f0, s0))] ho ⟨rfl, trivial⟩).1) (fun x hx => pX0_quarrelersOf_ok (h := xw [(0, b0, f0, s0)] h) (f0 := f0) (xok_sub ho [0] rfl (by decide)) s0 v1 v5 x hx) rfl (fun x4 _ => ?_)
      refine s_if_ne (tgt := 47) (pc := 42) dX0_isGone_42 (by decide) (fun _ => ?_) (fun _ => ?_)
      · refine s_sub [] rfl ?_
        exact s_ev (fun _ _ q => q)
      · exact X0_isGone_j47_ok ho v1 v4 v5 s0
    · exact X0_isGone_j47_ok ho v1 v4 v5 s0
def pX0_isGone (s0 : RS) (a0 : Int32) (a1 : Int32) (a2 : Int32) : Option Bool :=
  (pX0_ofThing s0 (a0 &&& (a1 ^^^ (-1 : Int32))) a2 (1 : Int32)).bind fun x1 =>
  (a_loop (fun (q : Int32) => X0_isGone_b16 a0 x1 q s0) FU (0 : Int32)).bind (Sum.elim (fun (t5 : Unit) =>
      some true)
    (fun (t6 : Unit) =>
      some false))
theorem pX0_isGone_w (ho : xok [(0, b0)] h.2.1) (s0 : RS) (a0 : Int32) (a1 : Int32) (a2 : Int32) : aS l 2 MX0_isGone n0 S0 (oΦ (fun (x : Bool) => ((some (.int (b2i x))), xw [(0, b0, f0, s0)] h))) 0 [(0, .ref b0), (1, .int a0), (2, .int a1), (3, .int a2)] [] (xw [(0, b0, f0, s0)] h) (pX0_isGone s0 a0 a1 a2) := by
  unfold pX0_isGone
  refine s_aload_n (pc := 0) 0 dX0_isGone_0 rfl ?_
  refine s_iload_n (pc := 1) 1 dX0_isGone_1 rfl ?_
  refine s_iload_n (pc := 2) 2 dX0_isGone_2 rfl ?_
  refine s_iconst (v := (-1)) (pc := 3) dX0_isGone_3 (by decide) ?_
  refine s_ixor (pc := 4) dX0_isGone_4 ?_
  refine s_iand (pc := 5) dX0_isGone_5 ?_
  refine s_iload_n (pc := 6) 3 dX0_isGone_6 rfl ?_
  refine s_iconst (v := 1) (pc := 7) dX0_isGone_7 (by decide) ?_
  refine x_callV (M := MX0_isGone) (L := [(0, b0, f0, s0)]) (h := h) (j := 0) (As := [.int (a0 &&& (a1 ^^^ (-1 : Int32))), .int a2, .int 1]) (st := []) (A := fun (x : Int32) => some (.int x)) (Lc := [(0, b0, f0, s0)]) (Lr := fun (x : Int32) => [(0, b0, f0, s0)]) (L2 := fun (x : Int32) => [(0, b0, f0, s0)]) cv_X0_95 (by decide) (pc := 8) dX0_isGone_8 ho rfl xc0_0 rfl rfl (Nat.le_of_ble_eq_true rfl) (xovs (L := [(0, b0, f0, s0)]) (h := h) [(0, (0, b0, f0, s0))] ho ⟨rfl, trivial⟩).1 (fun x => (xovs (L := [(0, b0, f0, s0)]) (h := h) [(0, (0, b0, f0, s0))] ho ⟨rfl, trivial⟩).1) (fun x hx => pX0_ofThing_ok (h := xw [(0, b0, f0, s0)] h) (f0 := f0) (xok_sub ho [0] rfl (by decide)) s0 (a0 &&& (a1 ^^^ (-1 : Int32))) a2 (1 : Int32) x hx) rfl (fun x1 _ => ?_)
  refine s_istore (lv' := [(4, .int x1), (0, .ref b0), (1, .int a0), (2, .int a1), (3, .int a2)]) (pc := 11) dX0_isGone_11 (by decide) rfl ?_
  refine s_iconst (v := 0) (pc := 13) dX0_isGone_13 (by decide) ?_
  refine s_istore (lv' := [(5, .int 0), (4, .int x1), (0, .ref b0), (1, .int a0), (2, .int a1), (3, .int a2)]) (pc := 14) dX0_isGone_14 (by decide) rfl ?_
  refine s_bind (Ψ := X0_isGone_x16 l n0 S0 h b0 f0 a0 x1 s0) ?_ ?_
  · refine s_sub [2, 3, 1, 0] rfl ?_
    exact s_loop (lvf := fun (q : Int32) => [(0, .ref b0), (1, .int a0), (4, .int x1), (5, .int q)]) (stf := fun _ => []) (hf := fun (q : Int32) => xw [(0, b0, f0, s0)] h) (fun q => X0_isGone_b16_ok ho a0 x1 q s0) FU (0 : Int32)
  · intro x z r h' hz hr
    rcases x with t5 | t6
    · refine (?_ : aS l 2 MX0_isGone n0 S0 (oΦ (fun (x : Bool) => ((some (.int (b2i x))), xw [(0, b0, f0, s0)] h))) 45 [] [] (xw [(0, b0, f0, s0)] h) _) z (show _ = some z from hz) r h' hr
      refine s_iconst (v := 1) (pc := 45) dX0_isGone_45 (by decide) ?_
      exact s_zretB (b := true) (pc := 46) dX0_isGone_46 rfl (fun _ _ q => q)
    · refine (?_ : aS l 2 MX0_isGone n0 S0 (oΦ (fun (x : Bool) => ((some (.int (b2i x))), xw [(0, b0, f0, s0)] h))) 53 [] [] (xw [(0, b0, f0, s0)] h) _) z (show _ = some z from hz) r h' hr
      refine s_iconst (v := 0) (pc := 53) dX0_isGone_53 (by decide) ?_
      exact s_zretB (b := false) (pc := 54) dX0_isGone_54 rfl (fun _ _ q => q)
theorem pX0_isGone_ok (ho : xok [(0, b0)] h.2.1) (s0 : RS) (a0 : Int32) (a1 : Int32) (a2 : Int32) : ∀ x, pX0_isGone s0 a0 a1 a2 = some x → aMet l 2 yX0_isGone cX0_isGone 6 (some .boolean) [.ref b0, .int a0, .int a1, .int a2] (xw [(0, b0, f0, s0)] h) (some (.int (b2i x))) (xw [(0, b0, f0, s0)] h) := fun x hx => a_meth (ini := false) (y := yX0_isGone) (by decide +kernel) (fun q => by cases q) (fun _ => Nat.le_of_ble_eq_true rfl) (pX0_isGone_w ho s0 a0 a1 a2) x hx _ _ ⟨rfl, rfl⟩
end
section
variable {l : Launch} {n0 S0 : Nat} {h : aH} {b0 : Nat} {f0 : Nat → Option Nat}
abbrev MX0_toldNumber : aM := (cX0_toldNumber, RX0, 10, (some .int), false)
def X0_toldNumber_x31 (l : Launch) (n0 S0 : Nat) (h : aH) (b0 : Nat) (f0 : Nat → Option Nat) (v4 : Int32) (v5 : Int32) (s0 : RS) : (Int32 × Int32 × Int32) → Option Value → aH → Prop := fun (x : Int32 × Int32 × Int32) r h' => aEv l 2 MX0_toldNumber n0 S0 88 [(0, .ref b0), (4, .int v4), (6, .int x.1), (7, .int x.2.1), (8, .int x.2.2)] [] (xw [(0, b0, f0, s0)] h) r h'
def X0_toldNumber_j82 (v4 : Int32) (v5 : Int32) (v6 : Int32) (v7 : Int32) (v8 : Int32) (v9 : Int32) (s0 : RS) : Option ((Int32 × Int32 × Int32 × Int32) ⊕ (Int32 × Int32 × Int32)) :=
  thn (v9 + 1) fun x4 =>
  some (.inl (v6, v7, v8, x4))
theorem X0_toldNumber_j82_ok (ho : xok [(0, b0)] h.2.1) (v4 : Int32) (v5 : Int32) (v6 : Int32) (v7 : Int32) (v8 : Int32) (v9 : Int32) (s0 : RS) : aS l 2 MX0_toldNumber n0 S0 (a_LΦ (X0_toldNumber_x31 l n0 S0 h b0 f0 v4 v5 s0) l 2 MX0_toldNumber n0 S0 31 (fun (q : Int32 × Int32 × Int32 × Int32) => [(0, .ref b0), (4, .int v4), (5, .int v5), (6, .int q.1), (7, .int q.2.1), (8, .int q.2.2.1), (9, .int q.2.2.2)]) (fun _ => []) (fun (q : Int32 × Int32 × Int32 × Int32) => xw [(0, b0, f0, s0)] h)) 82 [(0, .ref b0), (4, .int v4), (5, .int v5), (6, .int v6), (7, .int v7), (8, .int v8), (9, .int v9)] [] (xw [(0, b0, f0, s0)] h) (X0_toldNumber_j82 v4 v5 v6 v7 v8 v9 s0) := by
  unfold X0_toldNumber_j82
  refine s_iincT (pc := 82) 6 (lv' := fun x4 => [(9, .int x4), (0, .ref b0), (4, .int v4), (5, .int v5), (6, .int v6), (7, .int v7), (8, .int v8)]) dX0_toldNumber_82 rfl rfl (by decide) (fun _ => rfl) (fun x4 => ?_)
  refine s_goto (tgt := 31) (pc := 85) dX0_toldNumber_85 (by decide) ?_
  refine s_sub [1, 2, 3, 4, 5, 6, 0] rfl ?_
  exact s_ev (fun _ _ q => q)
def X0_toldNumber_b31 (v4 : Int32) (v5 : Int32) (v6 : Int32) (v7 : Int32) (v8 : Int32) (v9 : Int32) (s0 : RS) : Option ((Int32 × Int32 × Int32 × Int32) ⊕ (Int32 × Int32 × Int32)) :=
  if (s0.1 1) ≤ v9 then
    some (.inr (v6, v7, v8))
  else
    (pX0_isIn v5 v9).bind fun x3 =>
    if x3 = true then
      g_in v9 16 (
      if ((s0.2.2.1 11 v9.toNatClampNeg) &&& v5) = 0 then
        thn (v7 + 1) fun x5 =>
        g_in v9 16 (
        thn (v6 &&& (s0.2.2.1 10 v9.toNatClampNeg)) fun x6 =>
        X0_toldNumber_j82 v4 v5 x6 x5 v9 v9 s0)
      else
        X0_toldNumber_j82 v4 v5 v6 v7 v8 v9 s0)
    else
      X0_toldNumber_j82 v4 v5 v6 v7 v8 v9 s0
theorem X0_toldNumber_b31_ok (ho : xok [(0, b0)] h.2.1) (v4 : Int32) (v5 : Int32) (v6 : Int32) (v7 : Int32) (v8 : Int32) (v9 : Int32) (s0 : RS) : aS l 2 MX0_toldNumber n0 S0 (a_LΦ (X0_toldNumber_x31 l n0 S0 h b0 f0 v4 v5 s0) l 2 MX0_toldNumber n0 S0 31 (fun (q : Int32 × Int32 × Int32 × Int32) => [(0, .ref b0), (4, .int v4), (5, .int v5), (6, .int q.1), (7, .int q.2.1), (8, .int q.2.2.1), (9, .int q.2.2.2)]) (fun _ => []) (fun (q : Int32 × Int32 × Int32 × Int32) => xw [(0, b0, f0, s0)] h)) 31 [(0, .ref b0), (4, .int v4), (5, .int v5), (6, .int v6), (7, .int v7), (8, .int v8), (9, .int v9)] [] (xw [(0, b0, f0, s0)] h) (X0_toldNumber_b31 v4 v5 v6 v7 v8 v9 s0) := by
  unfold X0_toldNumber_b31
  refine s_iload (pc := 31) 6 dX0_toldNumber_31 rfl ?_
  refine s_aload_n (pc := 33) 0 dX0_toldNumber_33 rfl ?_
  refine xg_X0_15 0 ho rfl (pc := 34) dX0_toldNumber_34 rfl ?_
  refine s_icmp_ge (tgt := 88) (pc := 37) dX0_toldNumber_37 (by decide) (fun _ => ?_) (fun _ => ?_)
  · refine s_sub [0, 1, 3, 4, 5] rfl ?_
    exact s_ev (fun _ _ q => q)
  · refine s_iload (pc := 40) 2 dX0_toldNumber_40 rfl ?_
    refine s_iload (pc := 42) 6 dX0_toldNumber_42 rfl ?_
    refine s_callS (M := MX0_toldNumber) (As := [.int v5, .int v9]) (st := []) (Ψ := fun (x : Bool) => (some (.int (b2i x)), xw [(0, b0, f0, s0)] h)) cs_X0_70 (by decide) (pc := 44) dX0_toldNumber_44 rfl (Nat.le_of_ble_eq_true rfl) (fun x hx => pX0_isIn_ok v5 v9 x hx) rfl (fun x3 _ => ?_)
    refine s_if_eqB (tgt := 82) (pc := 47) dX0_toldNumber_47 (by decide) (fun _ => ?_) (fun _ => ?_)
    · refine s_aload_n (pc := 50) 0 dX0_toldNumber_50 rfl ?_
      refine xg_X0_47 0 ho rfl (pc := 51) dX0_toldNumber_51 rfl ?_
      refine s_iload (pc := 54) 6 dX0_toldNumber_54 rfl ?_
      refine xl_0_11 0 ho rfl (pc := 56) dX0_toldNumber_56 ?_
      refine s_iload (pc := 57) 2 dX0_toldNumber_57 rfl ?_
      refine s_iand (pc := 59) dX0_toldNumber_59 ?_
      refine s_if_ne (tgt := 82) (pc := 60) dX0_toldNumber_60 (by decide) (fun _ => ?_) (fun _ => ?_)
      · refine s_iincT (pc := 63) 4 (lv' := fun x5 => [(7, .int x5), (0, .ref b0), (4, .int v4), (5, .int v5), (6, .int v6), (8, .int v8), (9, .int v9)]) dX0_toldNumber_63 rfl rfl (by decide) (fun _ => rfl) (fun x5 => ?_)
        refine s_iload (pc := 66) 6 dX0_toldNumber_66 rfl ?_
        refine s_istore (lv' := [(8, .int v9), (7, .int x5), (0, .ref b0), (4, .int v4), (5, .int v5), (6, .int v6), (9, .int v9)]) (pc := 68) dX0_toldNumber_68 (by decide) rfl ?_
        refine s_iload (pc := 70) 5 dX0_toldNumber_70 rfl ?_
        refine s_aload_n (pc := 72) 2 dX0_toldNumber_72 rfl ?_
        refine xg_X0_44 0 ho rfl (pc := 73) dX0_toldNumber_73 rfl ?_
        refine s_iload (pc := 76) 6 dX0_toldNumber_76 rfl ?_
        refine xl_0_10 0 ho rfl (pc := 78) dX0_toldNumber_78 ?_
        refine s_iand (pc := 79) dX0_toldNumber_79 ?_
        refine s_istoreT (lv' := fun x6 => [(6, .int x6), (8, .int v9), (7, .int x5), (0, .ref b0), (4, .int v4), (5, .int v5), (9, .int v9)]) (pc := 80) dX0_toldNumber_80 (by decide) (fun _ => rfl) (fun x6 => ?_)
        refine s_sub [3, 4, 5, 0, 2, 1, 6] rfl ?_
        exact X0_toldNumber_j82_ok ho v4 v5 x6 x5 v9 v9 s0
      · exact X0_toldNumber_j82_ok ho v4 v5 v6 v7 v8 v9 s0
    · exact X0_toldNumber_j82_ok ho v4 v5 v6 v7 v8 v9 s0
def X0_toldNumber_x91 (l : Launch) (n0 S0 : Nat) (h : aH) (b0 : Nat) (f0 : Nat → Option Nat) (v4 : Int32) (v6 : Int32) (v7 : Int32) (s0 : RS) : Int32 → Option Value → aH → Prop := fun (x : Int32) r h' => aEv l 2 MX0_toldNumber n0 S0 126 [(0, .ref b0), (4, .int v4), (8, .int x)] [] (xw [(0, b0, f0, s0)] h) r h'
def X0_toldNumber_j120 (v4 : Int32) (v6 : Int32) (v7 : Int32) (v8 : Int32) (v9 : Int32) (s0 : RS) : Option ((Int32 × Int32) ⊕ Int32) :=
  thn (v9 + 1) fun x9 =>
  some (.inl (v8, x9))
theorem X0_toldNumber_j120_ok (ho : xok [(0, b0)] h.2.1) (v4 : Int32) (v6 : Int32) (v7 : Int32) (v8 : Int32) (v9 : Int32) (s0 : RS) : aS l 2 MX0_toldNumber n0 S0 (a_LΦ (X0_toldNumber_x91 l n0 S0 h b0 f0 v4 v6 v7 s0) l 2 MX0_toldNumber n0 S0 91 (fun (q : Int32 × Int32) => [(0, .ref b0), (4, .int v4), (6, .int v6), (7, .int v7), (8, .int q.1), (9, .int q.2)]) (fun _ => []) (fun (q : Int32 × Int32) => xw [(0, b0, f0, s0)] h)) 120 [(0, .ref b0), (4, .int v4), (6, .int v6), (7, .int v7), (8, .int v8), (9, .int v9)] [] (xw [(0, b0, f0, s0)] h) (X0_toldNumber_j120 v4 v6 v7 v8 v9 s0) := by
  unfold X0_toldNumber_j120
  refine s_iincT (pc := 120) 5 (lv' := fun x9 => [(9, .int x9), (0, .ref b0), (4, .int v4), (6, .int v6), (7, .int v7), (8, .int v8)]) dX0_toldNumber_120 rfl rfl (by decide) (fun _ => rfl) (fun x9 => ?_)
  refine s_goto (tgt := 91) (pc := 123) dX0_toldNumber_123 (by decide) ?_
  refine s_sub [1, 2, 3, 4, 5, 0] rfl ?_
  exact s_ev (fun _ _ q => q)
def X0_toldNumber_b91 (v4 : Int32) (v6 : Int32) (v7 : Int32) (v8 : Int32) (v9 : Int32) (s0 : RS) : Option ((Int32 × Int32) ⊕ Int32) :=
  if (s0.1 1) ≤ v9 then
    some (.inr v8)
  else
    if v7 ≤ (1 : Int32) then
      some (.inr v8)
    else
      (pX0_isIn v6 v9).bind fun x8 =>
      if x8 = true then
        X0_toldNumber_j120 v4 v6 v7 v9 v9 s0
      else
        X0_toldNumber_j120 v4 v6 v7 v8 v9 s0
theorem X0_toldNumber_b91_ok (ho : xok [(0, b0)] h.2.1) (v4 : Int32) (v6 : Int32) (v7 : Int32) (v8 : Int32) (v9 : Int32) (s0 : RS) : aS l 2 MX0_toldNumber n0 S0 (a_LΦ (X0_toldNumber_x91 l n0 S0 h b0 f0 v4 v6 v7 s0) l 2 MX0_toldNumber n0 S0 91 (fun (q : Int32 × Int32) => [(0, .ref b0), (4, .int v4), (6, .int v6), (7, .int v7), (8, .int q.1), (9, .int q.2)]) (fun _ => []) (fun (q : Int32 × Int32) => xw [(0, b0, f0, s0)] h)) 91 [(0, .ref b0), (4, .int v4), (6, .int v6), (7, .int v7), (8, .int v8), (9, .int v9)] [] (xw [(0, b0, f0, s0)] h) (X0_toldNumber_b91 v4 v6 v7 v8 v9 s0) := by
  unfold X0_toldNumber_b91
  refine s_iload (pc := 91) 5 dX0_toldNumber_91 rfl ?_
  refine s_aload_n (pc := 93) 0 dX0_toldNumber_93 rfl ?_
  refine xg_X0_15 0 ho rfl (pc := 94) dX0_toldNumber_94 rfl ?_
  refine s_icmp_ge (tgt := 126) (pc := 97) dX0_toldNumber_97 (by decide) (fun _ => ?_) (fun _ => ?_)
  · refine s_sub [0, 1, 4] rfl ?_
    exact s_ev (fun _ _ q => q)
  · refine s_iload (pc := 100) 3 dX0_toldNumber_100 rfl ?_
    refine s_iconst (v := 1) (pc := 102) dX0_toldNumber_102 (by decide) ?_
    refine s_icmp_le (tgt := 126) (pc := 103) dX0_toldNumber_103 (by decide) (fun _ => ?_) (fun _ => ?_)
    · refine s_sub [0, 1, 4] rfl ?_
      exact s_ev (fun _ _ q => q)
    · refine s_iload (pc := 106) 2 dX0_toldNumber_106 rfl ?_
      refine s_iload (pc := 108) 5 dX0_toldNumber_108 rfl ?_
      refine s_callS (M := MX0_toldNumber) (As := [.int v6, .int v9]) (st := []) (Ψ := fun (x : Bool) => (some (.int (b2i x)), xw [(0, b0, f0, s0)] h)) cs_X0_70 (by decide) (pc := 110) dX0_toldNumber_110 rfl (Nat.le_of_ble_eq_true rfl) (fun x hx => pX0_isIn_ok v6 v9 x hx) rfl (fun x8 _ => ?_)
      refine s_if_eqB (tgt := 120) (pc := 113) dX0_toldNumber_113 (by decide) (fun _ => ?_) (fun _ => ?_)
      · refine s_iload (pc := 116) 5 dX0_toldNumber_116 rfl ?_
        refine s_istore (lv' := [(8, .int v9), (0, .ref b0), (4, .int v4), (6, .int v6), (7, .int v7), (9, .int v9)]) (pc := 118) dX0_toldNumber_118 (by decide) rfl ?_
        refine s_sub [1, 2, 3, 4, 0, 5] rfl ?_
        exact X0_toldNumber_j120_ok ho v4 v6 v7 v9 v9 s0
      · exact X0_toldNumber_j120_ok ho v4 v6 v7 v8 v9 s0
def X0_toldNumber_j126 (v4 : Int32) (v8 : Int32) (s0 : RS) : Option Int32 :=
  if v4 = (2 : Int32) then
    (pX0_isPut s0 v8).bind fun x11 =>
    if x11 = true then
      g_in v8 16 (
      some (s0.2.2.1 6 v8.toNatClampNeg))
    else
      g_in v8 16 (
      some (s0.2.2.1 5 v8.toNatClampNeg))
  else
    g_in v8 16 (
    some (s0.2.2.1 5 v8.toNatClampNeg))
theorem X0_toldNumber_j126_ok (ho : xok [(0, b0)] h.2.1) (v4 : Int32) (v8 : Int32) (s0 : RS) : aS l 2 MX0_toldNumber n0 S0 (oΦ (fun (x : Int32) => ((some (.int x)), xw [(0, b0, f0, s0)] h))) 126 [(0, .ref b0), (4, .int v4), (8, .int v8)] [] (xw [(0, b0, f0, s0)] h) (X0_toldNumber_j126 v4 v8 s0) := by
  unfold X0_toldNumber_j126
  refine s_iload (pc := 126) 1 dX0_toldNumber_126 rfl ?_
  refine s_iconst (v := 2) (pc := 128) dX0_toldNumber_128 (by decide) ?_
  refine s_icmp_ne (tgt := 151) (pc := 129) dX0_toldNumber_129 (by decide) (fun _ => ?_) (fun _ => ?_)
  · refine s_aload_n (pc := 132) 0 dX0_toldNumber_132 rfl ?_
    refine s_iload (pc := 133) 2 dX0_toldNumber_133 rfl ?_
    refine x_callV (M := MX0_toldNumber) (L := [(0, b0, f0, s0)]) (h := h) (j := 0) (As := [.int v8]) (st := []) (A := fun (x : Bool) => some (.int (b2i x))) (Lc := [(0, b0, f0, s0)]) (Lr := fun (x : Bool) => [(0, b0, f0, s0)]) (L2 := fun (x : Bool) => [(0, b0, f0, s0)]) cv_X0_99 (by decide) (pc := 135) dX0_toldNumber_135 ho rfl xc0_0 rfl rfl (Nat.le_of_ble_eq_true rfl) (xovs (L := [(0, b0, f0, s0)]) (h := h) [(0, (0, b0, f0, s0))] ho ⟨rfl, trivial⟩).1 (fun x => (xovs (L := [(0, b0, f0, s0)]) (h := h) [(0, (0, b0, f0, s0))] ho ⟨rfl, trivial⟩).1) (fun x hx => pX0_isPut_ok (h := xw [(0, b0, f0, s0)] h) (f0 := f0) (xok_sub ho [0] rfl (by decide)) s0 v8 x hx) rfl (fun x11 _ => ?_)
    refine s_if_eqB (tgt := 151) (pc := 138) dX0_toldNumber_138 (by decide) (fun _ => ?_) (fun _ => ?_)
    · refine s_aload_n (pc := 141) 0 dX0_toldNumber_141 rfl ?_
      refine xg_X0_32 0 ho rfl (pc := 142) dX0_toldNumber_142 rfl ?_
      refine s_iload (pc := 145) 2 dX0_toldNumber_145 rfl ?_
      refine xl_0_6 0 ho rfl (pc := 147) dX0_toldNumber_147 ?_
      refine s_goto (tgt := 158) (pc := 148) dX0_toldNumber_148 (by decide) ?_
      exact s_iret (pc := 158) dX0_toldNumber_158 rfl (fun _ _ q => q)
    · refine s_aload_n (pc := 151) 0 dX0_toldNumber_151 rfl ?_
      refine xg_X0_29 0 ho rfl (pc := 152) dX0_toldNumber_152 rfl ?_
      refine s_iload (pc := 155) 2 dX0_toldNumber_155 rfl ?_
      refine xl_0_5 0 ho rfl (pc := 157) dX0_toldNumber_157 ?_
      exact s_iret (pc := 158) dX0_toldNumber_158 rfl (fun _ _ q => q)
  · refine s_aload_n (pc := 151) 0 dX0_toldNumber_151 rfl ?_
    refine xg_X0_29 0 ho rfl (pc := 152) dX0_toldNumber_152 rfl ?_
    refine s_iload (pc := 155) 2 dX0_toldNumber_155 rfl ?_
    refine xl_0_5 0 ho rfl (pc := 157) dX0_toldNumber_157 ?_
    exact s_iret (pc := 158) dX0_toldNumber_158 rfl (fun _ _ q => q)
def pX0_toldNumber (s0 : RS) (a0 : Int32) (a1 : Int32) (a2 : Int32) (a3 : Int32) : Option Int32 :=
  (pX0_ofThing s0 (a0 &&& (a1 ^^^ (-1 : Int32))) a2 a3).bind fun x1 =>
  thn (x1 ||| ((1 : Int32) <<< (a2 &&& 31))) fun x2 =>
  (a_loop (fun (q : Int32 × Int32 × Int32 × Int32) => X0_toldNumber_b31 a3 x1 q.1 q.2.1 q.2.2.1 q.2.2.2 s0) FU (x2, (0 : Int32), a2, (0 : Int32))).bind fun (t7 : Int32 × Int32 × Int32) =>
    (a_loop (fun (q : Int32 × Int32) => X0_toldNumber_b91 a3 t7.1 t7.2.1 q.1 q.2 s0) FU (t7.2.2, (0 : Int32))).bind fun (t10 : Int32) =>
      X0_toldNumber_j126 a3 t10 s0
theorem pX0_toldNumber_w (ho : xok [(0, b0)] h.2.1) (s0 : RS) (a0 : Int32) (a1 : Int32) (a2 : Int32) (a3 : Int32) : aS l 2 MX0_toldNumber n0 S0 (oΦ (fun (x : Int32) => ((some (.int x)), xw [(0, b0, f0, s0)] h))) 0 [(0, .ref b0), (1, .int a0), (2, .int a1), (3, .int a2), (4, .int a3)] [] (xw [(0, b0, f0, s0)] h) (pX0_toldNumber s0 a0 a1 a2 a3) := by
  unfold pX0_toldNumber
  refine s_aload_n (pc := 0) 0 dX0_toldNumber_0 rfl ?_
  refine s_iload_n (pc := 1) 1 dX0_toldNumber_1 rfl ?_
  refine s_iload_n (pc := 2) 2 dX0_toldNumber_2 rfl ?_
  refine s_iconst (v := (-1)) (pc := 3) dX0_toldNumber_3 (by decide) ?_
  refine s_ixor (pc := 4) dX0_toldNumber_4 ?_
  refine s_iand (pc := 5) dX0_toldNumber_5 ?_
  refine s_iload_n (pc := 6) 3 dX0_toldNumber_6 rfl ?_
  refine s_iload (pc := 7) 4 dX0_toldNumber_7 rfl ?_
  refine x_callV (M := MX0_toldNumber) (L := [(0, b0, f0, s0)]) (h := h) (j := 0) (As := [.int (a0 &&& (a1 ^^^ (-1 : Int32))), .int a2, .int a3]) (st := []) (A := fun (x : Int32) => some (.int x)) (Lc := [(0, b0, f0, s0)]) (Lr := fun (x : Int32) => [(0, b0, f0, s0)]) (L2 := fun (x : Int32) => [(0, b0, f0, s0)]) cv_X0_95 (by decide) (pc := 9) dX0_toldNumber_9 ho rfl xc0_0 rfl rfl (Nat.le_of_ble_eq_true rfl) (xovs (L := [(0, b0, f0, s0)]) (h := h) [(0, (0, b0, f0, s0))] ho ⟨rfl, trivial⟩).1 (fun x => (xovs (L := [(0, b0, f0, s0)]) (h := h) [(0, (0, b0, f0, s0))] ho ⟨rfl, trivial⟩).1) (fun x hx => pX0_ofThing_ok (h := xw [(0, b0, f0, s0)] h) (f0 := f0) (xok_sub ho [0] rfl (by decide)) s0 (a0 &&& (a1 ^^^ (-1 : Int32))) a2 a3 x hx) rfl (fun x1 _ => ?_)
  refine s_istore (lv' := [(5, .int x1), (0, .ref b0), (1, .int a0), (2, .int a1), (3, .int a2), (4, .int a3)]) (pc := 12) dX0_toldNumber_12 (by decide) rfl ?_
  refine s_iload (pc := 14) 0 dX0_toldNumber_14 rfl ?_
  refine s_iconst (v := 1) (pc := 16) dX0_toldNumber_16 (by decide) ?_
  refine s_iload_n (pc := 17) 4 dX0_toldNumber_17 rfl ?_
  refine s_ishl (pc := 18) dX0_toldNumber_18 ?_
  refine s_ior (pc := 19) dX0_toldNumber_19 ?_
  refine s_istoreT (lv' := fun x2 => [(6, .int x2), (5, .int x1), (0, .ref b0), (1, .int a0), (2, .int a1), (3, .int a2), (4, .int a3)]) (pc := 20) dX0_toldNumber_20 (by decide) (fun _ => rfl) (fun x2 => ?_)
  refine s_iconst (v := 0) (pc := 22) dX0_toldNumber_22 (by decide) ?_
  refine s_istore (lv' := [(7, .int 0), (6, .int x2), (5, .int x1), (0, .ref b0), (1, .int a0), (2, .int a1), (3, .int a2), (4, .int a3)]) (pc := 23) dX0_toldNumber_23 (by decide) rfl ?_
  refine s_iload_n (pc := 25) 6 dX0_toldNumber_25 rfl ?_
  refine s_istore (lv' := [(8, .int a2), (7, .int 0), (6, .int x2), (5, .int x1), (0, .ref b0), (1, .int a0), (2, .int a1), (3, .int a2), (4, .int a3)]) (pc := 26) dX0_toldNumber_26 (by decide) rfl ?_
  refine s_iconst (v := 0) (pc := 28) dX0_toldNumber_28 (by decide) ?_
  refine s_istore (lv' := [(9, .int 0), (8, .int a2), (7, .int 0), (6, .int x2), (5, .int x1), (0, .ref b0), (1, .int a0), (2, .int a1), (3, .int a2), (4, .int a3)]) (pc := 29) dX0_toldNumber_29 (by decide) rfl ?_
  refine s_bind (Ψ := X0_toldNumber_x31 l n0 S0 h b0 f0 a3 x1 s0) ?_ ?_
  · refine s_sub [5, 9, 4, 3, 2, 1, 0] rfl ?_
    exact s_loop (lvf := fun (q : Int32 × Int32 × Int32 × Int32) => [(0, .ref b0), (4, .int a3), (5, .int x1), (6, .int q.1), (7, .int q.2.1), (8, .int q.2.2.1), (9, .int q.2.2.2)]) (stf := fun _ => []) (hf := fun (q : Int32 × Int32 × Int32 × Int32) => xw [(0, b0, f0, s0)] h) (fun q => X0_toldNumber_b31_ok ho a3 x1 q.1 q.2.1 q.2.2.1 q.2.2.2 s0) FU (x2, (0 : Int32), a2, (0 : Int32))
  · intro t7 z r h' hz hr
    refine (?_ : aS l 2 MX0_toldNumber n0 S0 (oΦ (fun (x : Int32) => ((some (.int x)), xw [(0, b0, f0, s0)] h))) 88 [(0, .ref b0), (4, .int a3), (6, .int t7.1), (7, .int t7.2.1), (8, .int t7.2.2)] [] (xw [(0, b0, f0, s0)] h) _) z hz r h' hr
    refine s_iconst (v := 0) (pc := 88) dX0_toldNumber_88 (by decide) ?_
    refine s_istore (lv' := [(9, .int 0), (0, .ref b0), (4, .int a3), (6, .int t7.1), (7, .int t7.2.1), (8, .int t7.2.2)]) (pc := 89) dX0_toldNumber_89 (by decide) rfl ?_
    refine s_bind (Ψ := X0_toldNumber_x91 l n0 S0 h b0 f0 a3 t7.1 t7.2.1 s0) ?_ ?_
    · refine s_sub [1, 2, 3, 4, 5, 0] rfl ?_
      exact s_loop (lvf := fun (q : Int32 × Int32) => [(0, .ref b0), (4, .int a3), (6, .int t7.1), (7, .int t7.2.1), (8, .int q.1), (9, .int q.2)]) (stf := fun _ => []) (hf := fun (q : Int32 × Int32) => xw [(0, b0, f0, s0)] h) (fun q => X0_toldNumber_b91_ok ho a3 t7.1 t7.2.1 q.1 q.2 s0) FU (t7.2.2, (0 : Int32))
    · intro t10 z r h' hz hr
      refine (?_ : aS l 2 MX0_toldNumber n0 S0 (oΦ (fun (x : Int32) => ((some (.int x)), xw [(0, b0, f0, s0)] h))) 126 [(0, .ref b0), (4, .int a3), (8, .int t10)] [] (xw [(0, b0, f0, s0)] h) _) z hz r h' hr
      exact X0_toldNumber_j126_ok ho a3 t10 s0
theorem pX0_toldNumber_ok (ho : xok [(0, b0)] h.2.1) (s0 : RS) (a0 : Int32) (a1 : Int32) (a2 : Int32) (a3 : Int32) : ∀ x, pX0_toldNumber s0 a0 a1 a2 a3 = some x → aMet l 2 yX0_toldNumber cX0_toldNumber 10 (some .int) [.ref b0, .int a0, .int a1, .int a2, .int a3] (xw [(0, b0, f0, s0)] h) (some (.int x)) (xw [(0, b0, f0, s0)] h) := fun x hx => a_meth (ini := false) (y := yX0_toldNumber) (by decide +kernel) (fun q => by cases q) (fun _ => Nat.le_of_ble_eq_true rfl) (pX0_toldNumber_w ho s0 a0 a1 a2 a3) x hx _ _ ⟨rfl, rfl⟩
end
section
variable {l : Launch} {n0 S0 : Nat} {h : aH}
abbrev MX9_isSort : aM := (cX9_isSort, RX9, 1, (some .boolean), false)
def pX9_isSort (a0 : Int32) : Option Bool :=
  if a0 < 0 then
    some false
  else
    if (3 : Int32) < a0 then
      some false
    else
      some true
theorem pX9_isSort_w (a0 : Int32) : aS l 0 MX9_isSort n0 S0 (oΦ (fun (x : Bool) => ((some (.int (b2i x))), h))) 0 [(0, .int a0)] [] (h) (pX9_isSort a0) := by
  unfold pX9_isSort
  refine s_iload_n (pc := 0) 0 dX9_isSort_0 rfl ?_
  refine s_if_lt (tgt := 13) (pc := 1) dX9_isSort_1 (by decide) (fun _ => ?_) (fun _ => ?_)
  · refine s_iconst (v := 0) (pc := 13) dX9_isSort_13 (by decide) ?_
    exact s_zretB (b := false) (pc := 14) dX9_isSort_14 rfl (fun _ _ q => q)
  · refine s_iload_n (pc := 4) 0 dX9_isSort_4 rfl ?_
    refine s_iconst (v := 3) (pc := 5) dX9_isSort_5 (by decide) ?_
    refine s_icmp_gt (tgt := 13) (pc := 6) dX9_isSort_6 (by decide) (fun _ => ?_) (fun _ => ?_)
    · refine s_iconst (v := 0) (pc := 13) dX9_isSort_13 (by decide) ?_
      exact s_zretB (b := false) (pc := 14) dX9_isSort_14 rfl (fun _ _ q => q)
    · refine s_iconst (v := 1) (pc := 9) dX9_isSort_9 (by decide) ?_
      refine s_goto (tgt := 14) (pc := 10) dX9_isSort_10 (by decide) ?_
      exact s_zretB (b := true) (pc := 14) dX9_isSort_14 rfl (fun _ _ q => q)
theorem pX9_isSort_ok (a0 : Int32) : ∀ x, pX9_isSort a0 = some x → aMet l 0 yX9_isSort cX9_isSort 1 (some .boolean) [.int a0] (h) (some (.int (b2i x))) (h) := fun x hx => a_meth (ini := false) (y := yX9_isSort) (by decide +kernel) (fun q => by cases q) (fun _ => Nat.le_of_ble_eq_true rfl) (pX9_isSort_w a0) x hx _ _ ⟨rfl, rfl⟩
end
section
variable {l : Launch} {n0 S0 : Nat} {h : aH} {b0 : Nat} {f0 : Nat → Option Nat}
abbrev MX9_isMissing : aM := (cX9_isMissing, RX9, 1, (some .boolean), false)
def pX9_isMissing (s0 : RS) : Option Bool :=
  if (s0.1 1) = (-1 : Int32) then
    some true
  else
    some false
theorem pX9_isMissing_w (ho : xok [(9, b0)] h.2.1) (s0 : RS) : aS l 0 MX9_isMissing n0 S0 (oΦ (fun (x : Bool) => ((some (.int (b2i x))), xw [(9, b0, f0, s0)] h))) 0 [(0, .ref b0)] [] (xw [(9, b0, f0, s0)] h) (pX9_isMissing s0) := by
  unfold pX9_isMissing
  refine s_aload_n (pc := 0) 0 dX9_isMissing_0 rfl ?_
  refine xg_X9_15 0 ho rfl (pc := 1) dX9_isMissing_1 rfl ?_
  refine s_iconst (v := (-1)) (pc := 4) dX9_isMissing_4 (by decide) ?_
  refine s_icmp_ne (tgt := 12) (pc := 5) dX9_isMissing_5 (by decide) (fun _ => ?_) (fun _ => ?_)
  · refine s_iconst (v := 1) (pc := 8) dX9_isMissing_8 (by decide) ?_
    refine s_goto (tgt := 13) (pc := 9) dX9_isMissing_9 (by decide) ?_
    exact s_zretB (b := true) (pc := 13) dX9_isMissing_13 rfl (fun _ _ q => q)
  · refine s_iconst (v := 0) (pc := 12) dX9_isMissing_12 (by decide) ?_
    exact s_zretB (b := false) (pc := 13) dX9_isMissing_13 rfl (fun _ _ q => q)
theorem pX9_isMissing_ok (ho : xok [(9, b0)] h.2.1) (s0 : RS) : ∀ x, pX9_isMissing s0 = some x → aMet l 0 yX9_isMissing cX9_isMissing 1 (some .boolean) [.ref b0] (xw [(9, b0, f0, s0)] h) (some (.int (b2i x))) (xw [(9, b0, f0, s0)] h) := fun x hx => a_meth (ini := false) (y := yX9_isMissing) (by decide +kernel) (fun q => by cases q) (fun _ => Nat.le_of_ble_eq_true rfl) (pX9_isMissing_w ho s0) x hx _ _ ⟨rfl, rfl⟩
end
section
variable {l : Launch} {n0 S0 : Nat} {h : aH} {b0 : Nat} {f0 : Nat → Option Nat}
abbrev MX9_layOut : aM := (cX9_layOut, RX9, 4, none, false)
def X9_layOut_x12 (l : Launch) (n0 S0 : Nat) (h : aH) (b0 : Nat) (f0 : Nat → Option Nat) : RS → Option Value → aH → Prop := fun (x : RS) r h' => aEv l 0 MX9_layOut n0 S0 31 [] [] (xw [(9, b0, f0, x)] h) r h'
def X9_layOut_b12 (v3 : Int32) (s0 : RS) : Option ((Int32 × RS) ⊕ RS) :=
  if (60 : Int32) ≤ v3 then
    some (.inr s0)
  else
    g_in v3 60 (thn (uB s0 0 (vp_updL (s0.2.2.2 0) v3.toNatClampNeg (0 : Int64))) fun s_3 =>
    thn (v3 + 1) fun x4 =>
    some (.inl (x4, s_3)))
theorem X9_layOut_b12_ok (ho : xok [(9, b0)] h.2.1) (v3 : Int32) (s0 : RS) : aS l 0 MX9_layOut n0 S0 (a_LΦ (X9_layOut_x12 l n0 S0 h b0 f0) l 0 MX9_layOut n0 S0 12 (fun (q : Int32 × RS) => [(0, .ref b0), (3, .int q.1)]) (fun _ => []) (fun (q : Int32 × RS) => xw [(9, b0, f0, q.2)] h)) 12 [(0, .ref b0), (3, .int v3)] [] (xw [(9, b0, f0, s0)] h) (X9_layOut_b12 v3 s0) := by
  unfold X9_layOut_b12
  refine s_iload_n (pc := 12) 1 dX9_layOut_12 rfl ?_
  refine s_bipush (v := 60) (pc := 13) dX9_layOut_13 (by decide) ?_
  refine s_icmp_ge (tgt := 31) (pc := 15) dX9_layOut_15 (by decide) (fun _ => ?_) (fun _ => ?_)
  · refine s_sub [] rfl ?_
    exact s_ev (fun _ _ q => q)
  · refine s_aload_n (pc := 18) 0 dX9_layOut_18 rfl ?_
    refine xg_X9_9 0 ho rfl (pc := 19) dX9_layOut_19 rfl ?_
    refine s_iload_n (pc := 22) 1 dX9_layOut_22 rfl ?_
    refine s_lconst (v := 0) (pc := 23) dX9_layOut_23 (by decide) ?_
    refine xs_9_0 (L' := fun s_3 => [(9, b0, f0, s_3)]) 0 ho rfl (fun _ => rfl) (pc := 24) dX9_layOut_24 (fun s_3 => ?_)
    refine s_iincT (pc := 25) 1 (lv' := fun x4 => [(3, .int x4), (0, .ref b0)]) dX9_layOut_25 rfl rfl (by decide) (fun _ => rfl) (fun x4 => ?_)
    refine s_goto (tgt := 12) (pc := 28) dX9_layOut_28 (by decide) ?_
    refine s_sub [1, 0] rfl ?_
    exact s_ev (fun _ _ q => q)
def pX9_layOut (s0 : RS) (a0 : Int32) (a1 : Int32) : Option RS :=
  thn (uI s0 1 a0) fun s_1 =>
  thn (uI s_1 2 a1) fun s_2 =>
  (a_loop (fun (q : Int32 × RS) => X9_layOut_b12 q.1 q.2) FU ((0 : Int32), s_2)).bind fun (t5 : RS) =>
    some t5
theorem pX9_layOut_w (ho : xok [(9, b0)] h.2.1) (s0 : RS) (a0 : Int32) (a1 : Int32) : aS l 0 MX9_layOut n0 S0 (oΦ (fun (x : RS) => (none, xw [(9, b0, f0, x)] h))) 0 [(0, .ref b0), (1, .int a0), (2, .int a1)] [] (xw [(9, b0, f0, s0)] h) (pX9_layOut s0 a0 a1) := by
  unfold pX9_layOut
  refine s_aload_n (pc := 0) 0 dX9_layOut_0 rfl ?_
  refine s_iload_n (pc := 1) 1 dX9_layOut_1 rfl ?_
  refine xp_X9_15 (L' := fun s_1 => [(9, b0, f0, s_1)]) 0 ho rfl (fun _ => rfl) (pc := 2) dX9_layOut_2 rfl (fun s_1 => ?_)
  refine s_aload_n (pc := 5) 0 dX9_layOut_5 rfl ?_
  refine s_iload_n (pc := 6) 2 dX9_layOut_6 rfl ?_
  refine xp_X9_19 (L' := fun s_2 => [(9, b0, f0, s_2)]) 0 ho rfl (fun _ => rfl) (pc := 7) dX9_layOut_7 rfl (fun s_2 => ?_)
  refine s_iconst (v := 0) (pc := 10) dX9_layOut_10 (by decide) ?_
  refine s_istore_n (lv' := [(3, .int 0), (0, .ref b0), (1, .int a0), (2, .int a1)]) (pc := 11) dX9_layOut_11 (by decide) rfl ?_
  refine s_bind (Ψ := X9_layOut_x12 l n0 S0 h b0 f0) ?_ ?_
  · refine s_sub [1, 0] rfl ?_
    exact s_loop (lvf := fun (q : Int32 × RS) => [(0, .ref b0), (3, .int q.1)]) (stf := fun _ => []) (hf := fun (q : Int32 × RS) => xw [(9, b0, f0, q.2)] h) (fun q => X9_layOut_b12_ok ho q.1 q.2) FU ((0 : Int32), s_2)
  · intro t5 z r h' hz hr
    refine (?_ : aS l 0 MX9_layOut n0 S0 (oΦ (fun (x : RS) => (none, xw [(9, b0, f0, x)] h))) 31 [] [] (xw [(9, b0, f0, t5)] h) _) z hz r h' hr
    exact s_vret (pc := 31) dX9_layOut_31 rfl (fun _ _ q => q)
theorem pX9_layOut_ok (ho : xok [(9, b0)] h.2.1) (s0 : RS) (a0 : Int32) (a1 : Int32) : ∀ x, pX9_layOut s0 a0 a1 = some x → aMet l 0 yX9_layOut cX9_layOut 4 none [.ref b0, .int a0, .int a1] (xw [(9, b0, f0, s0)] h) none (xw [(9, b0, f0, x)] h) := fun x hx => a_meth (ini := false) (y := yX9_layOut) (by decide +kernel) (fun q => by cases q) (fun _ => Nat.le_of_ble_eq_true rfl) (pX9_layOut_w ho s0 a0 a1) x hx _ _ ⟨rfl, rfl⟩
end
section
variable {l : Launch} {n0 S0 : Nat} {h : aH} {b0 : Nat} {f0 : Nat → Option Nat}
abbrev MX9_spans : aM := (cX9_spans, RX9, 3, (some .boolean), false)
def pX9_spans (s0 : RS) (a0 : Int32) (a1 : Int32) : Option Bool :=
  if a0 < 0 then
    some false
  else
    if a1 < 0 then
      some false
    else
      if (s0.1 2) < a0 then
        some false
      else
        if ((s0.1 2) - a0) < a1 then
          some false
        else
          some true
theorem pX9_spans_w (ho : xok [(9, b0)] h.2.1) (s0 : RS) (a0 : Int32) (a1 : Int32) : aS l 0 MX9_spans n0 S0 (oΦ (fun (x : Bool) => ((some (.int (b2i x))), xw [(9, b0, f0, s0)] h))) 0 [(0, .ref b0), (1, .int a0), (2, .int a1)] [] (xw [(9, b0, f0, s0)] h) (pX9_spans s0 a0 a1) := by
  unfold pX9_spans
  refine s_iload_n (pc := 0) 1 dX9_spans_0 rfl ?_
  refine s_if_lt (tgt := 30) (pc := 1) dX9_spans_1 (by decide) (fun _ => ?_) (fun _ => ?_)
  · refine s_iconst (v := 0) (pc := 30) dX9_spans_30 (by decide) ?_
    exact s_zretB (b := false) (pc := 31) dX9_spans_31 rfl (fun _ _ q => q)
  · refine s_iload_n (pc := 4) 2 dX9_spans_4 rfl ?_
    refine s_if_lt (tgt := 30) (pc := 5) dX9_spans_5 (by decide) (fun _ => ?_) (fun _ => ?_)
    · refine s_iconst (v := 0) (pc := 30) dX9_spans_30 (by decide) ?_
      exact s_zretB (b := false) (pc := 31) dX9_spans_31 rfl (fun _ _ q => q)
    · refine s_iload_n (pc := 8) 1 dX9_spans_8 rfl ?_
      refine s_aload_n (pc := 9) 0 dX9_spans_9 rfl ?_
      refine xg_X9_19 0 ho rfl (pc := 10) dX9_spans_10 rfl ?_
      refine s_icmp_gt (tgt := 30) (pc := 13) dX9_spans_13 (by decide) (fun _ => ?_) (fun _ => ?_)
      · refine s_iconst (v := 0) (pc := 30) dX9_spans_30 (by decide) ?_
        exact s_zretB (b := false) (pc := 31) dX9_spans_31 rfl (fun _ _ q => q)
      · refine s_iload_n (pc := 16) 2 dX9_spans_16 rfl ?_
        refine s_aload_n (pc := 17) 0 dX9_spans_17 rfl ?_
        refine xg_X9_19 0 ho rfl (pc := 18) dX9_spans_18 rfl ?_
        refine s_iload_n (pc := 21) 1 dX9_spans_21 rfl ?_
        refine s_isub (pc := 22) dX9_spans_22 ?_
        refine s_icmp_gt (tgt := 30) (pc := 23) dX9_spans_23 (by decide) (fun _ => ?_) (fun _ => ?_)
        · refine s_iconst (v := 0) (pc := 30) dX9_spans_30 (by decide) ?_
          exact s_zretB (b := false) (pc := 31) dX9_spans_31 rfl (fun _ _ q => q)
        · refine s_iconst (v := 1) (pc := 26) dX9_spans_26 (by decide) ?_
          refine s_goto (tgt := 31) (pc := 27) dX9_spans_27 (by decide) ?_
          exact s_zretB (b := true) (pc := 31) dX9_spans_31 rfl (fun _ _ q => q)
theorem pX9_spans_ok (ho : xok [(9, b0)] h.2.1) (s0 : RS) (a0 : Int32) (a1 : Int32) : ∀ x, pX9_spans s0 a0 a1 = some x → aMet l 0 yX9_spans cX9_spans 3 (some .boolean) [.ref b0, .int a0, .int a1] (xw [(9, b0, f0, s0)] h) (some (.int (b2i x))) (xw [(9, b0, f0, s0)] h) := fun x hx => a_meth (ini := false) (y := yX9_spans) (by decide +kernel) (fun q => by cases q) (fun _ => Nat.le_of_ble_eq_true rfl) (pX9_spans_w ho s0 a0 a1) x hx _ _ ⟨rfl, rfl⟩
end
section
variable {l : Launch} {n0 S0 : Nat} {h : aH} {b0 : Nat} {f0 : Nat → Option Nat}
abbrev MX9_get : aM := (cX9_get, RX9, 2, (some .long), false)
def pX9_get (s0 : RS) (a0 : Int32) : Option Int64 :=
  if a0 < 0 then
    some (-1 : Int64)
  else
    if (s0.1 2) ≤ a0 then
      some (-1 : Int64)
    else
      g_in a0 60 (
      some (s0.2.2.2 0 a0.toNatClampNeg))
theorem pX9_get_w (ho : xok [(9, b0)] h.2.1) (s0 : RS) (a0 : Int32) : aS l 0 MX9_get n0 S0 (oΦ (fun (x : Int64) => ((some (.long x)), xw [(9, b0, f0, s0)] h))) 0 [(0, .ref b0), (1, .int a0)] [] (xw [(9, b0, f0, s0)] h) (pX9_get s0 a0) := by
  unfold pX9_get
  refine s_iload_n (pc := 0) 1 dX9_get_0 rfl ?_
  refine s_if_lt (tgt := 21) (pc := 1) dX9_get_1 (by decide) (fun _ => ?_) (fun _ => ?_)
  · refine s_ldc2 (v := (-1)) (pc := 21) dX9_get_21 wk_X9_22 ?_
    exact s_lret (pc := 24) dX9_get_24 rfl (fun _ _ q => q)
  · refine s_iload_n (pc := 4) 1 dX9_get_4 rfl ?_
    refine s_aload_n (pc := 5) 0 dX9_get_5 rfl ?_
    refine xg_X9_19 0 ho rfl (pc := 6) dX9_get_6 rfl ?_
    refine s_icmp_ge (tgt := 21) (pc := 9) dX9_get_9 (by decide) (fun _ => ?_) (fun _ => ?_)
    · refine s_ldc2 (v := (-1)) (pc := 21) dX9_get_21 wk_X9_22 ?_
      exact s_lret (pc := 24) dX9_get_24 rfl (fun _ _ q => q)
    · refine s_aload_n (pc := 12) 0 dX9_get_12 rfl ?_
      refine xg_X9_9 0 ho rfl (pc := 13) dX9_get_13 rfl ?_
      refine s_iload_n (pc := 16) 1 dX9_get_16 rfl ?_
      refine xl_9_0 0 ho rfl (pc := 17) dX9_get_17 ?_
      refine s_goto (tgt := 24) (pc := 18) dX9_get_18 (by decide) ?_
      exact s_lret (pc := 24) dX9_get_24 rfl (fun _ _ q => q)
theorem pX9_get_ok (ho : xok [(9, b0)] h.2.1) (s0 : RS) (a0 : Int32) : ∀ x, pX9_get s0 a0 = some x → aMet l 0 yX9_get cX9_get 2 (some .long) [.ref b0, .int a0] (xw [(9, b0, f0, s0)] h) (some (.long x)) (xw [(9, b0, f0, s0)] h) := fun x hx => a_meth (ini := false) (y := yX9_get) (by decide +kernel) (fun q => by cases q) (fun _ => Nat.le_of_ble_eq_true rfl) (pX9_get_w ho s0 a0) x hx _ _ ⟨rfl, rfl⟩
end
section
variable {l : Launch} {n0 S0 : Nat} {h : aH} {b0 : Nat} {f0 : Nat → Option Nat}
abbrev MX9_cut : aM := (cX9_cut, RX9, 3, (some .long), false)
def pX9_cut (s0 : RS) (a0 : Int64) : Option Int64 :=
  if (s0.1 1) = 0 then
    some a0.toInt32.toInt8.toInt32.toInt64
  else
    if (s0.1 1) = 1 then
      some a0.toInt32.toInt16.toInt32.toInt64
    else
      if (s0.1 1) = 2 then
        some a0.toInt32.toInt64
      else
        some a0
theorem pX9_cut_w (ho : xok [(9, b0)] h.2.1) (s0 : RS) (a0 : Int64) : aS l 0 MX9_cut n0 S0 (oΦ (fun (x : Int64) => ((some (.long x)), xw [(9, b0, f0, s0)] h))) 0 [(0, .ref b0), (1, .long a0)] [] (xw [(9, b0, f0, s0)] h) (pX9_cut s0 a0) := by
  unfold pX9_cut
  refine s_aload_n (pc := 0) 0 dX9_cut_0 rfl ?_
  refine xg_X9_15 0 ho rfl (pc := 1) dX9_cut_1 rfl ?_
  refine s_case (c := (s0.1 1) = 0) (fun c0 => ?_) (fun n1 => ?_)
  · refine s_tabIn (tgt := 32) (off := 28) (pc := 4) dX9_cut_4 (by rw [c0]; decide) (by rw [c0]; decide) (by rw [c0]; rfl) (by decide) ?_
    refine s_lload_n (pc := 32) 1 dX9_cut_32 rfl ?_
    refine s_l2i (pc := 33) dX9_cut_33 ?_
    refine s_i2b (pc := 34) dX9_cut_34 ?_
    refine s_i2l (pc := 35) dX9_cut_35 ?_
    exact s_lret (pc := 36) dX9_cut_36 rfl (fun _ _ q => q)
  · refine s_case (c := (s0.1 1) = 1) (fun c0 => ?_) (fun n2 => ?_)
    · refine s_tabIn (tgt := 37) (off := 33) (pc := 4) dX9_cut_4 (by rw [c0]; decide) (by rw [c0]; decide) (by rw [c0]; rfl) (by decide) ?_
      refine s_lload_n (pc := 37) 1 dX9_cut_37 rfl ?_
      refine s_l2i (pc := 38) dX9_cut_38 ?_
      refine s_i2s (pc := 39) dX9_cut_39 ?_
      refine s_i2l (pc := 40) dX9_cut_40 ?_
      exact s_lret (pc := 41) dX9_cut_41 rfl (fun _ _ q => q)
    · refine s_case (c := (s0.1 1) = 2) (fun c0 => ?_) (fun n3 => ?_)
      · refine s_tabIn (tgt := 42) (off := 38) (pc := 4) dX9_cut_4 (by rw [c0]; decide) (by rw [c0]; decide) (by rw [c0]; rfl) (by decide) ?_
        refine s_lload_n (pc := 42) 1 dX9_cut_42 rfl ?_
        refine s_l2i (pc := 43) dX9_cut_43 ?_
        refine s_i2l (pc := 44) dX9_cut_44 ?_
        exact s_lret (pc := 45) dX9_cut_45 rfl (fun _ _ q => q)
      · refine s_tabOut (tgt := 46) (pc := 4) dX9_cut_4 (sw_out (fun i h1 h2 => by
          have hi : i = 0 ∨ i = 1 ∨ i = 2 := by omega
          rcases hi with rfl | rfl | rfl
          · exact fun q => n1 (q.trans (by decide))
          · exact fun q => n2 (q.trans (by decide))
          · exact fun q => n3 (q.trans (by decide)))) (by decide) ?_
        refine s_lload_n (pc := 46) 1 dX9_cut_46 rfl ?_
        exact s_lret (pc := 47) dX9_cut_47 rfl (fun _ _ q => q)
theorem pX9_cut_ok (ho : xok [(9, b0)] h.2.1) (s0 : RS) (a0 : Int64) : ∀ x, pX9_cut s0 a0 = some x → aMet l 0 yX9_cut cX9_cut 3 (some .long) [.ref b0, .long a0] (xw [(9, b0, f0, s0)] h) (some (.long x)) (xw [(9, b0, f0, s0)] h) := fun x hx => a_meth (ini := false) (y := yX9_cut) (by decide +kernel) (fun q => by cases q) (fun _ => Nat.le_of_ble_eq_true rfl) (pX9_cut_w ho s0 a0) x hx _ _ ⟨rfl, rfl⟩
end
section
variable {l : Launch} {n0 S0 : Nat} {h : aH} {b0 : Nat} {f0 : Nat → Option Nat}
abbrev MX9_set : aM := (cX9_set, RX9, 4, none, false)
def pX9_set (s0 : RS) (a0 : Int32) (a1 : Int64) : Option RS :=
  if a0 < 0 then
    some s0
  else
    if (s0.1 2) ≤ a0 then
      some s0
    else
      (pX9_cut s0 a1).bind fun x1 =>
      g_in a0 60 (thn (uB s0 0 (vp_updL (s0.2.2.2 0) a0.toNatClampNeg x1)) fun s_2 =>
      some s_2)
theorem pX9_set_w (ho : xok [(9, b0)] h.2.1) (s0 : RS) (a0 : Int32) (a1 : Int64) : aS l 1 MX9_set n0 S0 (oΦ (fun (x : RS) => (none, xw [(9, b0, f0, x)] h))) 0 [(0, .ref b0), (1, .int a0), (2, .long a1)] [] (xw [(9, b0, f0, s0)] h) (pX9_set s0 a0 a1) := by
  unfold pX9_set
  refine s_iload_n (pc := 0) 1 dX9_set_0 rfl ?_
  refine s_if_lt (tgt := 23) (pc := 1) dX9_set_1 (by decide) (fun _ => ?_) (fun _ => ?_)
  · exact s_vret (pc := 23) dX9_set_23 rfl (fun _ _ q => q)
  · refine s_iload_n (pc := 4) 1 dX9_set_4 rfl ?_
    refine s_aload_n (pc := 5) 0 dX9_set_5 rfl ?_
    refine xg_X9_19 0 ho rfl (pc := 6) dX9_set_6 rfl ?_
    refine s_icmp_ge (tgt := 23) (pc := 9) dX9_set_9 (by decide) (fun _ => ?_) (fun _ => ?_)
    · exact s_vret (pc := 23) dX9_set_23 rfl (fun _ _ q => q)
    · refine s_aload_n (pc := 12) 0 dX9_set_12 rfl ?_
      refine xg_X9_9 0 ho rfl (pc := 13) dX9_set_13 rfl ?_
      refine s_iload_n (pc := 16) 1 dX9_set_16 rfl ?_
      refine s_aload_n (pc := 17) 0 dX9_set_17 rfl ?_
      refine s_lload_n (pc := 18) 2 dX9_set_18 rfl ?_
      refine x_callV (M := MX9_set) (L := [(9, b0, f0, s0)]) (h := h) (j := 0) (As := [.long a1]) (st := [.int a0, .ref (b0 + 1)]) (A := fun (x : Int64) => some (.long x)) (Lc := [(9, b0, f0, s0)]) (Lr := fun (x : Int64) => [(9, b0, f0, s0)]) (L2 := fun (x : Int64) => [(9, b0, f0, s0)]) cv_X9_24 (by decide) (pc := 19) dX9_set_19 ho rfl xc0_9 rfl rfl (Nat.le_of_ble_eq_true rfl) (xovs (L := [(9, b0, f0, s0)]) (h := h) [(0, (9, b0, f0, s0))] ho ⟨rfl, trivial⟩).1 (fun x => (xovs (L := [(9, b0, f0, s0)]) (h := h) [(0, (9, b0, f0, s0))] ho ⟨rfl, trivial⟩).1) (fun x hx => pX9_cut_ok (h := xw [(9, b0, f0, s0)] h) (f0 := f0) (xok_sub ho [0] rfl (by decide)) s0 a1 x hx) rfl (fun x1 _ => ?_)
      refine xs_9_0 (L' := fun s_2 => [(9, b0, f0, s_2)]) 0 ho rfl (fun _ => rfl) (pc := 22) dX9_set_22 (fun s_2 => ?_)
      exact s_vret (pc := 23) dX9_set_23 rfl (fun _ _ q => q)
theorem pX9_set_ok (ho : xok [(9, b0)] h.2.1) (s0 : RS) (a0 : Int32) (a1 : Int64) : ∀ x, pX9_set s0 a0 a1 = some x → aMet l 1 yX9_set cX9_set 4 none [.ref b0, .int a0, .long a1] (xw [(9, b0, f0, s0)] h) none (xw [(9, b0, f0, x)] h) := fun x hx => a_meth (ini := false) (y := yX9_set) (by decide +kernel) (fun q => by cases q) (fun _ => Nat.le_of_ble_eq_true rfl) (pX9_set_w ho s0 a0 a1) x hx _ _ ⟨rfl, rfl⟩
end
section
variable {l : Launch} {n0 S0 : Nat} {h : aH} {b0 : Nat} {f0 : Nat → Option Nat}
abbrev MX2_insert : aM := (cX2_insert, RX2, 5, none, false)
def X2_insert_x16 (l : Launch) (n0 S0 : Nat) (h : aH) (b0 : Nat) (f0 : Nat → Option Nat) (v1 : Int32) (v2 : Int32) (v3 : Int32) : (Int32 × RS) → Option Value → aH → Prop := fun (x : Int32 × RS) r h' => aEv l 0 MX2_insert n0 S0 88 [(0, .ref b0), (1, .int v1), (2, .int v2), (3, .int v3), (4, .int x.1)] [] (xw [(2, b0, f0, x.2)] h) r h'
def X2_insert_b16 (v1 : Int32) (v2 : Int32) (v3 : Int32) (v4 : Int32) (s0 : RS) : Option ((Int32 × RS) ⊕ (Int32 × RS)) :=
  if v4 ≤ 0 then
    some (.inr (v4, s0))
  else
    g_in (v4 - (1 : Int32)) 16 (
    if (s0.2.2.1 3 (v4 - (1 : Int32)).toNatClampNeg) ≤ v3 then
      some (.inr (v4, s0))
    else
      g_in (v4 - (1 : Int32)) 16 (
      g_in v4 16 (thn (uA s0 1 (upd (s0.2.2.1 1) v4.toNatClampNeg (s0.2.2.1 1 (v4 - (1 : Int32)).toNatClampNeg))) fun s_2 =>
      g_in (v4 - (1 : Int32)) 16 (
      g_in v4 16 (thn (uA s_2 2 (upd (s_2.2.2.1 2) v4.toNatClampNeg (s_2.2.2.1 2 (v4 - (1 : Int32)).toNatClampNeg))) fun s_3 =>
      g_in (v4 - (1 : Int32)) 16 (
      g_in v4 16 (thn (uA s_3 3 (upd (s_3.2.2.1 3) v4.toNatClampNeg (s_3.2.2.1 3 (v4 - (1 : Int32)).toNatClampNeg))) fun s_4 =>
      thn (v4 + (-1)) fun x5 =>
      some (.inl (x5, s_4)))))))))
theorem X2_insert_b16_ok (ho : xok [(2, b0)] h.2.1) (v1 : Int32) (v2 : Int32) (v3 : Int32) (v4 : Int32) (s0 : RS) : aS l 0 MX2_insert n0 S0 (a_LΦ (X2_insert_x16 l n0 S0 h b0 f0 v1 v2 v3) l 0 MX2_insert n0 S0 16 (fun (q : Int32 × RS) => [(0, .ref b0), (1, .int v1), (2, .int v2), (3, .int v3), (4, .int q.1)]) (fun _ => []) (fun (q : Int32 × RS) => xw [(2, b0, f0, q.2)] h)) 16 [(0, .ref b0), (1, .int v1), (2, .int v2), (3, .int v3), (4, .int v4)] [] (xw [(2, b0, f0, s0)] h) (X2_insert_b16 v1 v2 v3 v4 s0) := by
  unfold X2_insert_b16
  refine s_iload (pc := 16) 4 dX2_insert_16 rfl ?_
  refine s_if_le (tgt := 88) (pc := 18) dX2_insert_18 (by decide) (fun _ => ?_) (fun _ => ?_)
  · exact s_ev (fun _ _ q => q)
  · refine s_aload_n (pc := 21) 0 dX2_insert_21 rfl ?_
    refine xg_X2_22 0 ho rfl (pc := 22) dX2_insert_22 rfl ?_
    refine s_iload (pc := 25) 4 dX2_insert_25 rfl ?_
    refine s_iconst (v := 1) (pc := 27) dX2_insert_27 (by decide) ?_
    refine s_isub (pc := 28) dX2_insert_28 ?_
    refine xl_2_3 0 ho rfl (pc := 29) dX2_insert_29 ?_
    refine s_iload_n (pc := 30) 3 dX2_insert_30 rfl ?_
    refine s_icmp_le (tgt := 88) (pc := 31) dX2_insert_31 (by decide) (fun _ => ?_) (fun _ => ?_)
    · exact s_ev (fun _ _ q => q)
    · refine s_aload_n (pc := 34) 0 dX2_insert_34 rfl ?_
      refine xg_X2_15 0 ho rfl (pc := 35) dX2_insert_35 rfl ?_
      refine s_iload (pc := 38) 4 dX2_insert_38 rfl ?_
      refine s_aload_n (pc := 40) 0 dX2_insert_40 rfl ?_
      refine xg_X2_15 0 ho rfl (pc := 41) dX2_insert_41 rfl ?_
      refine s_iload (pc := 44) 4 dX2_insert_44 rfl ?_
      refine s_iconst (v := 1) (pc := 46) dX2_insert_46 (by decide) ?_
      refine s_isub (pc := 47) dX2_insert_47 ?_
      refine xl_2_1 0 ho rfl (pc := 48) dX2_insert_48 ?_
      refine xs_2_1 (L' := fun s_2 => [(2, b0, f0, s_2)]) 0 ho rfl (fun _ => rfl) (pc := 49) dX2_insert_49 (fun s_2 => ?_)
      refine s_aload_n (pc := 50) 0 dX2_insert_50 rfl ?_
      refine xg_X2_19 0 ho rfl (pc := 51) dX2_insert_51 rfl ?_
      refine s_iload (pc := 54) 4 dX2_insert_54 rfl ?_
      refine s_aload_n (pc := 56) 0 dX2_insert_56 rfl ?_
      refine xg_X2_19 0 ho rfl (pc := 57) dX2_insert_57 rfl ?_
      refine s_iload (pc := 60) 4 dX2_insert_60 rfl ?_
      refine s_iconst (v := 1) (pc := 62) dX2_insert_62 (by decide) ?_
      refine s_isub (pc := 63) dX2_insert_63 ?_
      refine xl_2_2 0 ho rfl (pc := 64) dX2_insert_64 ?_
      refine xs_2_2 (L' := fun s_3 => [(2, b0, f0, s_3)]) 0 ho rfl (fun _ => rfl) (pc := 65) dX2_insert_65 (fun s_3 => ?_)
      refine s_aload_n (pc := 66) 0 dX2_insert_66 rfl ?_
      refine xg_X2_22 0 ho rfl (pc := 67) dX2_insert_67 rfl ?_
      refine s_iload (pc := 70) 4 dX2_insert_70 rfl ?_
      refine s_aload_n (pc := 72) 0 dX2_insert_72 rfl ?_
      refine xg_X2_22 0 ho rfl (pc := 73) dX2_insert_73 rfl ?_
      refine s_iload (pc := 76) 4 dX2_insert_76 rfl ?_
      refine s_iconst (v := 1) (pc := 78) dX2_insert_78 (by decide) ?_
      refine s_isub (pc := 79) dX2_insert_79 ?_
      refine xl_2_3 0 ho rfl (pc := 80) dX2_insert_80 ?_
      refine xs_2_3 (L' := fun s_4 => [(2, b0, f0, s_4)]) 0 ho rfl (fun _ => rfl) (pc := 81) dX2_insert_81 (fun s_4 => ?_)
      refine s_iincT (pc := 82) 4 (lv' := fun x5 => [(4, .int x5), (0, .ref b0), (1, .int v1), (2, .int v2), (3, .int v3)]) dX2_insert_82 rfl rfl (by decide) (fun _ => rfl) (fun x5 => ?_)
      refine s_goto (tgt := 16) (pc := 85) dX2_insert_85 (by decide) ?_
      refine s_sub [1, 2, 3, 4, 0] rfl ?_
      exact s_ev (fun _ _ q => q)
def X2_insert_j88 (v1 : Int32) (v2 : Int32) (v3 : Int32) (v4 : Int32) (s0 : RS) : Option RS :=
  g_in v4 16 (thn (uA s0 1 (upd (s0.2.2.1 1) v4.toNatClampNeg v1)) fun s_7 =>
  g_in v4 16 (thn (uA s_7 2 (upd (s_7.2.2.1 2) v4.toNatClampNeg v2)) fun s_8 =>
  g_in v4 16 (thn (uA s_8 3 (upd (s_8.2.2.1 3) v4.toNatClampNeg v3)) fun s_9 =>
  thn (uI s_9 0 ((s_9.1 0) + (1 : Int32))) fun s_10 =>
  some s_10)))
theorem X2_insert_j88_ok (ho : xok [(2, b0)] h.2.1) (v1 : Int32) (v2 : Int32) (v3 : Int32) (v4 : Int32) (s0 : RS) : aS l 0 MX2_insert n0 S0 (oΦ (fun (x : RS) => (none, xw [(2, b0, f0, x)] h))) 88 [(0, .ref b0), (1, .int v1), (2, .int v2), (3, .int v3), (4, .int v4)] [] (xw [(2, b0, f0, s0)] h) (X2_insert_j88 v1 v2 v3 v4 s0) := by
  unfold X2_insert_j88
  refine s_aload_n (pc := 88) 0 dX2_insert_88 rfl ?_
  refine xg_X2_15 0 ho rfl (pc := 89) dX2_insert_89 rfl ?_
  refine s_iload (pc := 92) 4 dX2_insert_92 rfl ?_
  refine s_iload_n (pc := 94) 1 dX2_insert_94 rfl ?_
  refine xs_2_1 (L' := fun s_7 => [(2, b0, f0, s_7)]) 0 ho rfl (fun _ => rfl) (pc := 95) dX2_insert_95 (fun s_7 => ?_)
  refine s_aload_n (pc := 96) 0 dX2_insert_96 rfl ?_
  refine xg_X2_19 0 ho rfl (pc := 97) dX2_insert_97 rfl ?_
  refine s_iload (pc := 100) 4 dX2_insert_100 rfl ?_
  refine s_iload_n (pc := 102) 2 dX2_insert_102 rfl ?_
  refine xs_2_2 (L' := fun s_8 => [(2, b0, f0, s_8)]) 0 ho rfl (fun _ => rfl) (pc := 103) dX2_insert_103 (fun s_8 => ?_)
  refine s_aload_n (pc := 104) 0 dX2_insert_104 rfl ?_
  refine xg_X2_22 0 ho rfl (pc := 105) dX2_insert_105 rfl ?_
  refine s_iload (pc := 108) 4 dX2_insert_108 rfl ?_
  refine s_iload_n (pc := 110) 3 dX2_insert_110 rfl ?_
  refine xs_2_3 (L' := fun s_9 => [(2, b0, f0, s_9)]) 0 ho rfl (fun _ => rfl) (pc := 111) dX2_insert_111 (fun s_9 => ?_)
  refine s_aload_n (pc := 112) 0 dX2_insert_112 rfl ?_
  refine s_dup (pc := 113) dX2_insert_113 rfl ?_
  refine xg_X2_9 0 ho rfl (pc := 114) dX2_insert_114 rfl ?_
  refine s_iconst (v := 1) (pc := 117) dX2_insert_117 (by decide) ?_
  refine s_iadd (pc := 118) dX2_insert_118 ?_
  refine xp_X2_9 (L' := fun s_10 => [(2, b0, f0, s_10)]) 0 ho rfl (fun _ => rfl) (pc := 119) dX2_insert_119 rfl (fun s_10 => ?_)
  exact s_vret (pc := 122) dX2_insert_122 rfl (fun _ _ q => q)
def pX2_insert (s0 : RS) (a0 : Int32) (a1 : Int32) (a2 : Int32) : Option RS :=
  if (s0.1 0) < (16 : Int32) then
    thn (s0.1 0) fun x1 =>
    (a_loop (fun (q : Int32 × RS) => X2_insert_b16 a0 a1 a2 q.1 q.2) FU (x1, s0)).bind fun (t6 : Int32 × RS) =>
      X2_insert_j88 a0 a1 a2 t6.1 t6.2
  else
    some s0
theorem pX2_insert_w (ho : xok [(2, b0)] h.2.1) (s0 : RS) (a0 : Int32) (a1 : Int32) (a2 : Int32) : aS l 0 MX2_insert n0 S0 (oΦ (fun (x : RS) => (none, xw [(2, b0, f0, x)] h))) 0 [(0, .ref b0), (1, .int a0), (2, .int a1), (3, .int a2)] [] (xw [(2, b0, f0, s0)] h) (pX2_insert s0 a0 a1 a2) := by
  unfold pX2_insert
  refine s_aload_n (pc := 0) 0 dX2_insert_0 rfl ?_
  refine xg_X2_9 0 ho rfl (pc := 1) dX2_insert_1 rfl ?_
  refine s_bipush (v := 16) (pc := 4) dX2_insert_4 (by decide) ?_
  refine s_icmp_lt (tgt := 10) (pc := 6) dX2_insert_6 (by decide) (fun _ => ?_) (fun _ => ?_)
  · refine s_aload_n (pc := 10) 0 dX2_insert_10 rfl ?_
    refine xg_X2_9 0 ho rfl (pc := 11) dX2_insert_11 rfl ?_
    refine s_istoreT (lv' := fun x1 => [(4, .int x1), (0, .ref b0), (1, .int a0), (2, .int a1), (3, .int a2)]) (pc := 14) dX2_insert_14 (by decide) (fun _ => rfl) (fun x1 => ?_)
    refine s_bind (Ψ := X2_insert_x16 l n0 S0 h b0 f0 a0 a1 a2) ?_ ?_
    · refine s_sub [1, 2, 3, 4, 0] rfl ?_
      exact s_loop (lvf := fun (q : Int32 × RS) => [(0, .ref b0), (1, .int a0), (2, .int a1), (3, .int a2), (4, .int q.1)]) (stf := fun _ => []) (hf := fun (q : Int32 × RS) => xw [(2, b0, f0, q.2)] h) (fun q => X2_insert_b16_ok ho a0 a1 a2 q.1 q.2) FU (x1, s0)
    · intro t6 z r h' hz hr
      refine (?_ : aS l 0 MX2_insert n0 S0 (oΦ (fun (x : RS) => (none, xw [(2, b0, f0, x)] h))) 88 [(0, .ref b0), (1, .int a0), (2, .int a1), (3, .int a2), (4, .int t6.1)] [] (xw [(2, b0, f0, t6.2)] h) _) z hz r h' hr
      exact X2_insert_j88_ok ho a0 a1 a2 t6.1 t6.2
  · exact s_vret (pc := 9) dX2_insert_9 rfl (fun _ _ q => q)
theorem pX2_insert_ok (ho : xok [(2, b0)] h.2.1) (s0 : RS) (a0 : Int32) (a1 : Int32) (a2 : Int32) : ∀ x, pX2_insert s0 a0 a1 a2 = some x → aMet l 0 yX2_insert cX2_insert 5 none [.ref b0, .int a0, .int a1, .int a2] (xw [(2, b0, f0, s0)] h) none (xw [(2, b0, f0, x)] h) := fun x hx => a_meth (ini := false) (y := yX2_insert) (by decide +kernel) (fun q => by cases q) (fun _ => Nat.le_of_ble_eq_true rfl) (pX2_insert_w ho s0 a0 a1 a2) x hx _ _ ⟨rfl, rfl⟩
end
section
variable {l : Launch} {n0 S0 : Nat} {h : aH} {b0 b1 : Nat} {f0 f1 : Nat → Option Nat}
abbrev MX2_fill : aM := (cX2_fill, RX2, 6, none, false)
def X2_fill_x14 (l : Launch) (n0 S0 : Nat) (h : aH) (b0 : Nat) (b1 : Nat) (f0 : Nat → Option Nat) (f1 : Nat → Option Nat) (v2 : Int32) (v3 : Int32) (s1 : RS) : RS → Option Value → aH → Prop := fun (x : RS) r h' => aEv l 3 MX2_fill n0 S0 86 [] [] (xw [(2, b0, f0, x), (0, b1, f1, s1)] h) r h'
def X2_fill_j80 (v2 : Int32) (v3 : Int32) (v4 : Int32) (s0 : RS) (s1 : RS) : Option ((Int32 × RS) ⊕ RS) :=
  thn (v4 + 1) fun x4 =>
  some (.inl (x4, s0))
theorem X2_fill_j80_ok (ho : xok [(2, b0), (0, b1)] h.2.1) (v2 : Int32) (v3 : Int32) (v4 : Int32) (s0 : RS) (s1 : RS) : aS l 3 MX2_fill n0 S0 (a_LΦ (X2_fill_x14 l n0 S0 h b0 b1 f0 f1 v2 v3 s1) l 3 MX2_fill n0 S0 14 (fun (q : Int32 × RS) => [(0, .ref b0), (1, .ref b1), (2, .int v2), (3, .int v3), (4, .int q.1)]) (fun _ => []) (fun (q : Int32 × RS) => xw [(2, b0, f0, q.2), (0, b1, f1, s1)] h)) 80 [(0, .ref b0), (1, .ref b1), (2, .int v2), (3, .int v3), (4, .int v4)] [] (xw [(2, b0, f0, s0), (0, b1, f1, s1)] h) (X2_fill_j80 v2 v3 v4 s0 s1) := by
  unfold X2_fill_j80
  refine s_iincT (pc := 80) 4 (lv' := fun x4 => [(4, .int x4), (0, .ref b0), (1, .ref b1), (2, .int v2), (3, .int v3)]) dX2_fill_80 rfl rfl (by decide) (fun _ => rfl) (fun x4 => ?_)
  refine s_goto (tgt := 14) (pc := 83) dX2_fill_83 (by decide) ?_
  refine s_sub [1, 2, 3, 4, 0] rfl ?_
  exact s_ev (fun _ _ q => q)
def X2_fill_b14 (v2 : Int32) (v3 : Int32) (v4 : Int32) (s0 : RS) (s1 : RS) : Option ((Int32 × RS) ⊕ RS) :=
  if (s1.1 1) ≤ v4 then
    some (.inr s0)
  else
    (pX0_isPut s1 v4).bind fun x3 =>
    if x3 = true then
      (pX0_isIn v2 v4).bind fun x5 =>
      if x5 = true then
        (pX0_isGone s1 v2 v3 v4).bind fun x6 =>
        if x6 = true then
          X2_fill_j80 v2 v3 v4 s0 s1
        else
          (pX0_toldNumber s1 v2 v3 v4 (2 : Int32)).bind fun x7 =>
          (pX0_toldNumber s1 v2 v3 v4 (3 : Int32)).bind fun x8 =>
          (pX2_insert s0 v4 x7 x8).bind fun x9 =>
          X2_fill_j80 v2 v3 v4 x9 s1
      else
        X2_fill_j80 v2 v3 v4 s0 s1
    else
      X2_fill_j80 v2 v3 v4 s0 s1
theorem X2_fill_b14_ok (ho : xok [(2, b0), (0, b1)] h.2.1) (v2 : Int32) (v3 : Int32) (v4 : Int32) (s0 : RS) (s1 : RS) : aS l 3 MX2_fill n0 S0 (a_LΦ (X2_fill_x14 l n0 S0 h b0 b1 f0 f1 v2 v3 s1) l 3 MX2_fill n0 S0 14 (fun (q : Int32 × RS) => [(0, .ref b0), (1, .ref b1), (2, .int v2), (3, .int v3), (4, .int q.1)]) (fun _ => []) (fun (q : Int32 × RS) => xw [(2, b0, f0, q.2), (0, b1, f1, s1)] h)) 14 [(0, .ref b0), (1, .ref b1), (2, .int v2), (3, .int v3), (4, .int v4)] [] (xw [(2, b0, f0, s0), (0, b1, f1, s1)] h) (X2_fill_b14 v2 v3 v4 s0 s1) := by
  unfold X2_fill_b14
  refine s_iload (pc := 14) 4 dX2_fill_14 rfl ?_
  refine s_aload_n (pc := 16) 1 dX2_fill_16 rfl ?_
  refine xg_X2_31 1 ho rfl (pc := 17) dX2_fill_17 rfl ?_
  refine s_icmp_ge (tgt := 86) (pc := 20) dX2_fill_20 (by decide) (fun _ => ?_) (fun _ => ?_)
  · refine s_sub [] rfl ?_
    exact s_ev (fun _ _ q => q)
  · refine s_aload_n (pc := 23) 1 dX2_fill_23 rfl ?_
    refine s_iload (pc := 24) 4 dX2_fill_24 rfl ?_
    refine x_callV (M := MX2_fill) (L := [(2, b0, f0, s0), (0, b1, f1, s1)]) (h := h) (j := 1) (As := [.int v4]) (st := []) (A := fun (x : Bool) => some (.int (b2i x))) (Lc := [(0, b1, f1, s1)]) (Lr := fun (x : Bool) => [(0, b1, f1, s1)]) (L2 := fun (x : Bool) => [(2, b0, f0, s0), (0, b1, f1, s1)]) cv_X2_34 (by decide) (pc := 26) dX2_fill_26 ho rfl xc0_0 rfl rfl (Nat.le_of_ble_eq_true rfl) (xovs (L := [(2, b0, f0, s0), (0, b1, f1, s1)]) (h := h) [(1, (0, b1, f1, s1))] ho ⟨rfl, trivial⟩).1 (fun x => (xovs (L := [(2, b0, f0, s0), (0, b1, f1, s1)]) (h := h) [(1, (0, b1, f1, s1))] ho ⟨rfl, trivial⟩).1) (fun x hx => pX0_isPut_ok (h := xw [(2, b0, f0, s0), (0, b1, f1, s1)] h) (f0 := f1) (xok_sub ho [1] rfl (by decide)) s1 v4 x hx) rfl (fun x3 _ => ?_)
    refine s_if_eqB (tgt := 80) (pc := 29) dX2_fill_29 (by decide) (fun _ => ?_) (fun _ => ?_)
    · refine s_iload_n (pc := 32) 2 dX2_fill_32 rfl ?_
      refine s_iload (pc := 33) 4 dX2_fill_33 rfl ?_
      refine s_callS (M := MX2_fill) (As := [.int v2, .int v4]) (st := []) (Ψ := fun (x : Bool) => (some (.int (b2i x)), xw [(2, b0, f0, s0), (0, b1, f1, s1)] h)) cs_X2_38 (by decide) (pc := 35) dX2_fill_35 rfl (Nat.le_of_ble_eq_true rfl) (fun x hx => pX0_isIn_ok v2 v4 x hx) rfl (fun x5 _ => ?_)
      refine s_if_eqB (tgt := 80) (pc := 38) dX2_fill_38 (by decide) (fun _ => ?_) (fun _ => ?_)
      · refine s_aload_n (pc := 41) 1 dX2_fill_41 rfl ?_
        refine s_iload_n (pc := 42) 2 dX2_fill_42 rfl ?_
        refine s_iload_n (pc := 43) 3 dX2_fill_43 rfl ?_
        refine s_iload (pc := 44) 4 dX2_fill_44 rfl ?_
        refine x_callV (M := MX2_fill) (L := [(2, b0, f0, s0), (0, b1, f1, s1)]) (h := h) (j := 1) (As := [.int v2, .int v3, .int v4]) (st := []) (A := fun (x : Bool) => some (.int (b2i x))) (Lc := [(0, b1, f1, s1)]) (Lr := fun (x : Bool) => [(0, b1, f1, s1)]) (L2 := fun (x : Bool) => [(2, b0, f0, s0), (0, b1, f1, s1)]) cv_X2_42 (by decide) (pc := 46) dX2_fill_46 ho rfl xc0_0 rfl rfl (Nat.le_of_ble_eq_true rfl) (xovs (L := [(2, b0, f0, s0), (0, b1, f1, s1)]) (h := h) [(1, (0, b1, f1, s1))] ho ⟨rfl, trivial⟩).1 (fun x => (xovs (L := [(2, b0, f0, s0), (0, b1, f1, s1)]) (h := h) [(1, (0, b1, f1, s1))] ho ⟨rfl, trivial⟩).1) (fun x hx => pX0_isGone_ok (h := xw [(2, b0, f0, s0), (0, b1, f1, s1)] h) (f0 := f1) (xok_sub ho [1] rfl (by decide)) s1 v2 v3 v4 x hx) rfl (fun x6 _ => ?_)
        refine s_if_neB (tgt := 80) (pc := 49) dX2_fill_49 (by decide) (fun _ => ?_) (fun _ => ?_)
        · exact X2_fill_j80_ok ho v2 v3 v4 s0 s1
        · refine s_aload_n (pc := 52) 1 dX2_fill_52 rfl ?_
          refine s_iload_n (pc := 53) 2 dX2_fill_53 rfl ?_
          refine s_iload_n (pc := 54) 3 dX2_fill_54 rfl ?_
          refine s_iload (pc := 55) 4 dX2_fill_55 rfl ?_
          refine s_iconst (v := 2) (pc := 57) dX2_fill_57 (by decide) ?_
          refine x_callV (M := MX2_fill) (L := [(2, b0, f0, s0), (0, b1, f1, s1)]) (h := h) (j := 1) (As := [.int v2, .int v3, .int v4, .int 2]) (st := []) (A := fun (x : Int32) => some (.int x)) (Lc := [(0, b1, f1, s1)]) (Lr := fun (x : Int32) => [(0, b1, f1, s1)]) (L2 := fun (x : Int32) => [(2, b0, f0, s0), (0, b1, f1, s1)]) cv_X2_46 (by decide) (pc := 58) dX2_fill_58 ho rfl xc0_0 rfl rfl (Nat.le_of_ble_eq_true rfl) (xovs (L := [(2, b0, f0, s0), (0, b1, f1, s1)]) (h := h) [(1, (0, b1, f1, s1))] ho ⟨rfl, trivial⟩).1 (fun x => (xovs (L := [(2, b0, f0, s0), (0, b1, f1, s1)]) (h := h) [(1, (0, b1, f1, s1))] ho ⟨rfl, trivial⟩).1) (fun x hx => pX0_toldNumber_ok (h := xw [(2, b0, f0, s0), (0, b1, f1, s1)] h) (f0 := f1) (xok_sub ho [1] rfl (by decide)) s1 v2 v3 v4 (2 : Int32) x hx) rfl (fun x7 _ => ?_)
          refine s_istore (lv' := [(5, .int x7), (0, .ref b0), (1, .ref b1), (2, .int v2), (3, .int v3), (4, .int v4)]) (pc := 61) dX2_fill_61 (by decide) rfl ?_
          refine s_aload_n (pc := 63) 1 dX2_fill_63 rfl ?_
          refine s_iload (pc := 64) 5 dX2_fill_64 rfl ?_
          refine s_iload (pc := 66) 0 dX2_fill_66 rfl ?_
          refine s_aload_n (pc := 68) 2 dX2_fill_68 rfl ?_
          refine s_iload_n (pc := 69) 3 dX2_fill_69 rfl ?_
          refine s_iload_n (pc := 70) 4 dX2_fill_70 rfl ?_
          refine s_iload (pc := 71) 5 dX2_fill_71 rfl ?_
          refine s_iconst (v := 3) (pc := 73) dX2_fill_73 (by decide) ?_
          refine x_callV (M := MX2_fill) (L := [(2, b0, f0, s0), (0, b1, f1, s1)]) (h := h) (j := 1) (As := [.int v2, .int v3, .int v4, .int 3]) (st := [.int x7, .int v4, .ref b0]) (A := fun (x : Int32) => some (.int x)) (Lc := [(0, b1, f1, s1)]) (Lr := fun (x : Int32) => [(0, b1, f1, s1)]) (L2 := fun (x : Int32) => [(2, b0, f0, s0), (0, b1, f1, s1)]) cv_X2_46 (by decide) (pc := 74) dX2_fill_74 ho rfl xc0_0 rfl rfl (Nat.le_of_ble_eq_true rfl) (xovs (L := [(2, b0, f0, s0), (0, b1, f1, s1)]) (h := h) [(1, (0, b1, f1, s1))] ho ⟨rfl, trivial⟩).1 (fun x => (xovs (L := [(2, b0, f0, s0), (0, b1, f1, s1)]) (h := h) [(1, (0, b1, f1, s1))] ho ⟨rfl, trivial⟩).1) (fun x hx => pX0_toldNumber_ok (h := xw [(2, b0, f0, s0), (0, b1, f1, s1)] h) (f0 := f1) (xok_sub ho [1] rfl (by decide)) s1 v2 v3 v4 (3 : Int32) x hx) rfl (fun x8 _ => ?_)
          refine x_callV (M := MX2_fill) (L := [(2, b0, f0, s0), (0, b1, f1, s1)]) (h := h) (j := 0) (As := [.int v4, .int x7, .int x8]) (st := []) (A := fun (x : RS) => none) (Lc := [(2, b0, f0, s0)]) (Lr := fun (x : RS) => [(2, b0, f0, x)]) (L2 := fun (x : RS) => [(2, b0, f0, x), (0, b1, f1, s1)]) cv_X2_50 (by decide) (pc := 77) dX2_fill_77 ho rfl xc0_2 rfl rfl (Nat.le_of_ble_eq_true rfl) (xovs (L := [(2, b0, f0, s0), (0, b1, f1, s1)]) (h := h) [(0, (2, b0, f0, s0))] ho ⟨rfl, trivial⟩).1 (fun x => (xovs (L := [(2, b0, f0, s0), (0, b1, f1, s1)]) (h := h) [(0, (2, b0, f0, x))] ho ⟨rfl, trivial⟩).1) (fun x hx => pX2_insert_ok (h := xw [(2, b0, f0, s0), (0, b1, f1, s1)] h) (f0 := f0) (xok_sub ho [0] rfl (by decide)) s0 v4 x7 x8 x hx) rfl (fun x9 _ => ?_)
          refine s_sub [1, 2, 3, 4, 5] rfl ?_
          exact X2_fill_j80_ok ho v2 v3 v4 x9 s1
      · exact X2_fill_j80_ok ho v2 v3 v4 s0 s1
    · exact X2_fill_j80_ok ho v2 v3 v4 s0 s1
def pX2_fill (s0 : RS) (s1 : RS) (a1 : Int32) : Option RS :=
  thn (uI s0 0 (0 : Int32)) fun s_1 =>
  (pX0_leftOutIn s1 a1).bind fun x2 =>
  (a_loop (fun (q : Int32 × RS) => X2_fill_b14 a1 x2 q.1 q.2 s1) FU ((0 : Int32), s_1)).bind fun (t10 : RS) =>
    some t10
theorem pX2_fill_w (ho : xok [(2, b0), (0, b1)] h.2.1) (s0 : RS) (s1 : RS) (a1 : Int32) : aS l 3 MX2_fill n0 S0 (oΦ (fun (x : RS) => (none, xw [(2, b0, f0, x), (0, b1, f1, s1)] h))) 0 [(0, .ref b0), (1, .ref b1), (2, .int a1)] [] (xw [(2, b0, f0, s0), (0, b1, f1, s1)] h) (pX2_fill s0 s1 a1) := by
  unfold pX2_fill
  refine s_aload_n (pc := 0) 0 dX2_fill_0 rfl ?_
  refine s_iconst (v := 0) (pc := 1) dX2_fill_1 (by decide) ?_
  refine xp_X2_9 (L' := fun s_1 => [(2, b0, f0, s_1), (0, b1, f1, s1)]) 0 ho rfl (fun _ => rfl) (pc := 2) dX2_fill_2 rfl (fun s_1 => ?_)
  refine s_aload_n (pc := 5) 1 dX2_fill_5 rfl ?_
  refine s_iload_n (pc := 6) 2 dX2_fill_6 rfl ?_
  refine x_callV (M := MX2_fill) (L := [(2, b0, f0, s_1), (0, b1, f1, s1)]) (h := h) (j := 1) (As := [.int a1]) (st := []) (A := fun (x : Int32) => some (.int x)) (Lc := [(0, b1, f1, s1)]) (Lr := fun (x : Int32) => [(0, b1, f1, s1)]) (L2 := fun (x : Int32) => [(2, b0, f0, s_1), (0, b1, f1, s1)]) cv_X2_25 (by decide) (pc := 7) dX2_fill_7 ho rfl xc0_0 rfl rfl (Nat.le_of_ble_eq_true rfl) (xovs (L := [(2, b0, f0, s_1), (0, b1, f1, s1)]) (h := h) [(1, (0, b1, f1, s1))] ho ⟨rfl, trivial⟩).1 (fun x => (xovs (L := [(2, b0, f0, s_1), (0, b1, f1, s1)]) (h := h) [(1, (0, b1, f1, s1))] ho ⟨rfl, trivial⟩).1) (fun x hx => pX0_leftOutIn_ok (h := xw [(2, b0, f0, s_1), (0, b1, f1, s1)] h) (f0 := f1) (xok_sub ho [1] rfl (by decide)) s1 a1 x hx) rfl (fun x2 _ => ?_)
  refine s_istore_n (lv' := [(3, .int x2), (0, .ref b0), (1, .ref b1), (2, .int a1)]) (pc := 10) dX2_fill_10 (by decide) rfl ?_
  refine s_iconst (v := 0) (pc := 11) dX2_fill_11 (by decide) ?_
  refine s_istore (lv' := [(4, .int 0), (3, .int x2), (0, .ref b0), (1, .ref b1), (2, .int a1)]) (pc := 12) dX2_fill_12 (by decide) rfl ?_
  refine s_bind (Ψ := X2_fill_x14 l n0 S0 h b0 b1 f0 f1 a1 x2 s1) ?_ ?_
  · refine s_sub [2, 3, 4, 1, 0] rfl ?_
    exact s_loop (lvf := fun (q : Int32 × RS) => [(0, .ref b0), (1, .ref b1), (2, .int a1), (3, .int x2), (4, .int q.1)]) (stf := fun _ => []) (hf := fun (q : Int32 × RS) => xw [(2, b0, f0, q.2), (0, b1, f1, s1)] h) (fun q => X2_fill_b14_ok ho a1 x2 q.1 q.2 s1) FU ((0 : Int32), s_1)
  · intro t10 z r h' hz hr
    refine (?_ : aS l 3 MX2_fill n0 S0 (oΦ (fun (x : RS) => (none, xw [(2, b0, f0, x), (0, b1, f1, s1)] h))) 86 [] [] (xw [(2, b0, f0, t10), (0, b1, f1, s1)] h) _) z hz r h' hr
    exact s_vret (pc := 86) dX2_fill_86 rfl (fun _ _ q => q)
theorem pX2_fill_ok (ho : xok [(2, b0), (0, b1)] h.2.1) (s0 : RS) (s1 : RS) (a1 : Int32) : ∀ x, pX2_fill s0 s1 a1 = some x → aMet l 3 yX2_fill cX2_fill 6 none [.ref b0, .ref b1, .int a1] (xw [(2, b0, f0, s0), (0, b1, f1, s1)] h) none (xw [(2, b0, f0, x), (0, b1, f1, s1)] h) := fun x hx => a_meth (ini := false) (y := yX2_fill) (by decide +kernel) (fun q => by cases q) (fun _ => Nat.le_of_ble_eq_true rfl) (pX2_fill_w ho s0 s1 a1) x hx _ _ ⟨rfl, rfl⟩
end
section
variable {l : Launch} {n0 S0 : Nat} {h : aH} {b0 : Nat} {f0 : Nat → Option Nat}
abbrev MX2_isPlace : aM := (cX2_isPlace, RX2, 2, (some .boolean), false)
def pX2_isPlace (s0 : RS) (a0 : Int32) : Option Bool :=
  if a0 < 0 then
    some false
  else
    if (s0.1 0) ≤ a0 then
      some false
    else
      some true
theorem pX2_isPlace_w (ho : xok [(2, b0)] h.2.1) (s0 : RS) (a0 : Int32) : aS l 0 MX2_isPlace n0 S0 (oΦ (fun (x : Bool) => ((some (.int (b2i x))), xw [(2, b0, f0, s0)] h))) 0 [(0, .ref b0), (1, .int a0)] [] (xw [(2, b0, f0, s0)] h) (pX2_isPlace s0 a0) := by
  unfold pX2_isPlace
  refine s_iload_n (pc := 0) 1 dX2_isPlace_0 rfl ?_
  refine s_if_lt (tgt := 16) (pc := 1) dX2_isPlace_1 (by decide) (fun _ => ?_) (fun _ => ?_)
  · refine s_iconst (v := 0) (pc := 16) dX2_isPlace_16 (by decide) ?_
    exact s_zretB (b := false) (pc := 17) dX2_isPlace_17 rfl (fun _ _ q => q)
  · refine s_iload_n (pc := 4) 1 dX2_isPlace_4 rfl ?_
    refine s_aload_n (pc := 5) 0 dX2_isPlace_5 rfl ?_
    refine xg_X2_9 0 ho rfl (pc := 6) dX2_isPlace_6 rfl ?_
    refine s_icmp_ge (tgt := 16) (pc := 9) dX2_isPlace_9 (by decide) (fun _ => ?_) (fun _ => ?_)
    · refine s_iconst (v := 0) (pc := 16) dX2_isPlace_16 (by decide) ?_
      exact s_zretB (b := false) (pc := 17) dX2_isPlace_17 rfl (fun _ _ q => q)
    · refine s_iconst (v := 1) (pc := 12) dX2_isPlace_12 (by decide) ?_
      refine s_goto (tgt := 17) (pc := 13) dX2_isPlace_13 (by decide) ?_
      exact s_zretB (b := true) (pc := 17) dX2_isPlace_17 rfl (fun _ _ q => q)
theorem pX2_isPlace_ok (ho : xok [(2, b0)] h.2.1) (s0 : RS) (a0 : Int32) : ∀ x, pX2_isPlace s0 a0 = some x → aMet l 0 yX2_isPlace cX2_isPlace 2 (some .boolean) [.ref b0, .int a0] (xw [(2, b0, f0, s0)] h) (some (.int (b2i x))) (xw [(2, b0, f0, s0)] h) := fun x hx => a_meth (ini := false) (y := yX2_isPlace) (by decide +kernel) (fun q => by cases q) (fun _ => Nat.le_of_ble_eq_true rfl) (pX2_isPlace_w ho s0 a0) x hx _ _ ⟨rfl, rfl⟩
end
section
variable {l : Launch} {n0 S0 : Nat} {h : aH} {b0 : Nat} {f0 : Nat → Option Nat}
abbrev MX2_placeOf : aM := (cX2_placeOf, RX2, 3, (some .int), false)
def X2_placeOf_x2 (l : Launch) (n0 S0 : Nat) (h : aH) (b0 : Nat) (f0 : Nat → Option Nat) (v1 : Int32) (s0 : RS) : (Int32 ⊕ Unit) → Option Value → aH → Prop := Sum.elim (fun (x : Int32) (r : Option Value) (h' : aH) => aEv l 0 MX2_placeOf n0 S0 20 [(2, .int x)] [] (xw [(2, b0, f0, s0)] h) r h') (fun (x : Unit) (r : Option Value) (h' : aH) => aEv l 0 MX2_placeOf n0 S0 28 [] [] (xw [(2, b0, f0, s0)] h) r h')
def X2_placeOf_b2 (v1 : Int32) (v2 : Int32) (s0 : RS) : Option (Int32 ⊕ (Int32 ⊕ Unit)) :=
  if (s0.1 0) ≤ v2 then
    some (.inr (.inr ()))
  else
    g_in v2 16 (
    if (s0.2.2.1 1 v2.toNatClampNeg) = v1 then
      some (.inr (.inl v2))
    else
      thn (v2 + 1) fun x1 =>
      some (.inl x1))
theorem X2_placeOf_b2_ok (ho : xok [(2, b0)] h.2.1) (v1 : Int32) (v2 : Int32) (s0 : RS) : aS l 0 MX2_placeOf n0 S0 (a_LΦ (X2_placeOf_x2 l n0 S0 h b0 f0 v1 s0) l 0 MX2_placeOf n0 S0 2 (fun (q : Int32) => [(0, .ref b0), (1, .int v1), (2, .int q)]) (fun _ => []) (fun (q : Int32) => xw [(2, b0, f0, s0)] h)) 2 [(0, .ref b0), (1, .int v1), (2, .int v2)] [] (xw [(2, b0, f0, s0)] h) (X2_placeOf_b2 v1 v2 s0) := by
  unfold X2_placeOf_b2
  refine s_iload_n (pc := 2) 2 dX2_placeOf_2 rfl ?_
  refine s_aload_n (pc := 3) 0 dX2_placeOf_3 rfl ?_
  refine xg_X2_9 0 ho rfl (pc := 4) dX2_placeOf_4 rfl ?_
  refine s_icmp_ge (tgt := 28) (pc := 7) dX2_placeOf_7 (by decide) (fun _ => ?_) (fun _ => ?_)
  · refine s_sub [] rfl ?_
    exact s_ev (fun _ _ q => q)
  · refine s_aload_n (pc := 10) 0 dX2_placeOf_10 rfl ?_
    refine xg_X2_15 0 ho rfl (pc := 11) dX2_placeOf_11 rfl ?_
    refine s_iload_n (pc := 14) 2 dX2_placeOf_14 rfl ?_
    refine xl_2_1 0 ho rfl (pc := 15) dX2_placeOf_15 ?_
    refine s_iload_n (pc := 16) 1 dX2_placeOf_16 rfl ?_
    refine s_icmp_ne (tgt := 22) (pc := 17) dX2_placeOf_17 (by decide) (fun _ => ?_) (fun _ => ?_)
    · refine s_sub [2] rfl ?_
      exact s_ev (fun _ _ q => q)
    · refine s_iincT (pc := 22) 2 (lv' := fun x1 => [(2, .int x1), (0, .ref b0), (1, .int v1)]) dX2_placeOf_22 rfl rfl (by decide) (fun _ => rfl) (fun x1 => ?_)
      refine s_goto (tgt := 2) (pc := 25) dX2_placeOf_25 (by decide) ?_
      refine s_sub [1, 2, 0] rfl ?_
      exact s_ev (fun _ _ q => q)
def pX2_placeOf (s0 : RS) (a0 : Int32) : Option Int32 :=
  (a_loop (fun (q : Int32) => X2_placeOf_b2 a0 q s0) FU (0 : Int32)).bind (Sum.elim (fun (t2 : Int32) =>
      some t2)
    (fun (t3 : Unit) =>
      some (-1 : Int32)))
theorem pX2_placeOf_w (ho : xok [(2, b0)] h.2.1) (s0 : RS) (a0 : Int32) : aS l 0 MX2_placeOf n0 S0 (oΦ (fun (x : Int32) => ((some (.int x)), xw [(2, b0, f0, s0)] h))) 0 [(0, .ref b0), (1, .int a0)] [] (xw [(2, b0, f0, s0)] h) (pX2_placeOf s0 a0) := by
  unfold pX2_placeOf
  refine s_iconst (v := 0) (pc := 0) dX2_placeOf_0 (by decide) ?_
  refine s_istore_n (lv' := [(2, .int 0), (0, .ref b0), (1, .int a0)]) (pc := 1) dX2_placeOf_1 (by decide) rfl ?_
  refine s_bind (Ψ := X2_placeOf_x2 l n0 S0 h b0 f0 a0 s0) ?_ ?_
  · refine s_sub [1, 2, 0] rfl ?_
    exact s_loop (lvf := fun (q : Int32) => [(0, .ref b0), (1, .int a0), (2, .int q)]) (stf := fun _ => []) (hf := fun (q : Int32) => xw [(2, b0, f0, s0)] h) (fun q => X2_placeOf_b2_ok ho a0 q s0) FU (0 : Int32)
  · intro x z r h' hz hr
    rcases x with t2 | t3
    · refine (?_ : aS l 0 MX2_placeOf n0 S0 (oΦ (fun (x : Int32) => ((some (.int x)), xw [(2, b0, f0, s0)] h))) 20 [(2, .int t2)] [] (xw [(2, b0, f0, s0)] h) _) z (show _ = some z from hz) r h' hr
      refine s_iload_n (pc := 20) 0 dX2_placeOf_20 rfl ?_
      exact s_iret (pc := 21) dX2_placeOf_21 rfl (fun _ _ q => q)
    · refine (?_ : aS l 0 MX2_placeOf n0 S0 (oΦ (fun (x : Int32) => ((some (.int x)), xw [(2, b0, f0, s0)] h))) 28 [] [] (xw [(2, b0, f0, s0)] h) _) z (show _ = some z from hz) r h' hr
      refine s_iconst (v := (-1)) (pc := 28) dX2_placeOf_28 (by decide) ?_
      exact s_iret (pc := 29) dX2_placeOf_29 rfl (fun _ _ q => q)
theorem pX2_placeOf_ok (ho : xok [(2, b0)] h.2.1) (s0 : RS) (a0 : Int32) : ∀ x, pX2_placeOf s0 a0 = some x → aMet l 0 yX2_placeOf cX2_placeOf 3 (some .int) [.ref b0, .int a0] (xw [(2, b0, f0, s0)] h) (some (.int x)) (xw [(2, b0, f0, s0)] h) := fun x hx => a_meth (ini := false) (y := yX2_placeOf) (by decide +kernel) (fun q => by cases q) (fun _ => Nat.le_of_ble_eq_true rfl) (pX2_placeOf_w ho s0 a0) x hx _ _ ⟨rfl, rfl⟩
end
section
variable {l : Launch} {n0 S0 : Nat} {h : aH}
abbrev MJ9_min_7cf53 : aM := (cJ9_min_7cf53, RJ9, 2, (some .int), false)
def pJ9_min_7cf53 (a0 : Int32) (a1 : Int32) : Option Int32 :=
  if a1 < a0 then
    some a1
  else
    some a0
theorem pJ9_min_7cf53_w (a0 : Int32) (a1 : Int32) : aS l 0 MJ9_min_7cf53 n0 S0 (oΦ (fun (x : Int32) => ((some (.int x)), h))) 0 [(0, .int a0), (1, .int a1)] [] (h) (pJ9_min_7cf53 a0 a1) := by
  unfold pJ9_min_7cf53
  refine s_iload_n (pc := 0) 0 dJ9_min_7cf53_0 rfl ?_
  refine s_iload_n (pc := 1) 1 dJ9_min_7cf53_1 rfl ?_
  refine s_icmp_gt (tgt := 9) (pc := 2) dJ9_min_7cf53_2 (by decide) (fun _ => ?_) (fun _ => ?_)
  · refine s_iload_n (pc := 9) 1 dJ9_min_7cf53_9 rfl ?_
    exact s_iret (pc := 10) dJ9_min_7cf53_10 rfl (fun _ _ q => q)
  · refine s_iload_n (pc := 5) 0 dJ9_min_7cf53_5 rfl ?_
    refine s_goto (tgt := 10) (pc := 6) dJ9_min_7cf53_6 (by decide) ?_
    exact s_iret (pc := 10) dJ9_min_7cf53_10 rfl (fun _ _ q => q)
theorem pJ9_min_7cf53_ok (a0 : Int32) (a1 : Int32) : ∀ x, pJ9_min_7cf53 a0 a1 = some x → aMet l 0 yJ9_min_7cf53 cJ9_min_7cf53 2 (some .int) [.int a0, .int a1] (h) (some (.int x)) (h) := fun x hx => a_methF (ini := false) (y := yJ9_min_7cf53) (by decide +kernel) (fun q => by cases q) (fun _ => Nat.le_of_ble_eq_true rfl) (pJ9_min_7cf53_w a0 a1) x hx _ _ ⟨rfl, rfl⟩
end
section
variable {l : Launch} {n0 S0 : Nat} {h : aH} {b0 b1 : Nat} {f0 f1 : Nat → Option Nat}
abbrev MX2_firstDifference : aM := (cX2_firstDifference, RX2, 4, (some .int), false)
def X2_firstDifference_x14 (l : Launch) (n0 S0 : Nat) (h : aH) (b0 : Nat) (b1 : Nat) (f0 : Nat → Option Nat) (f1 : Nat → Option Nat) (v2 : Int32) (s0 : RS) (s1 : RS) : (Int32 ⊕ Unit) → Option Value → aH → Prop := Sum.elim (fun (x : Int32) (r : Option Value) (h' : aH) => aEv l 1 MX2_firstDifference n0 S0 49 [(3, .int x)] [] (xw [(2, b0, f0, s0), (2, b1, f1, s1)] h) r h') (fun (x : Unit) (r : Option Value) (h' : aH) => aEv l 1 MX2_firstDifference n0 S0 57 [(0, .ref b0), (1, .ref b1), (2, .int v2)] [] (xw [(2, b0, f0, s0), (2, b1, f1, s1)] h) r h')
def X2_firstDifference_b14 (v2 : Int32) (v3 : Int32) (s0 : RS) (s1 : RS) : Option (Int32 ⊕ (Int32 ⊕ Unit)) :=
  if v2 ≤ v3 then
    some (.inr (.inr ()))
  else
    g_in v3 16 (
    g_in v3 16 (
    if (s0.2.2.1 1 v3.toNatClampNeg) = (s1.2.2.1 1 v3.toNatClampNeg) then
      g_in v3 16 (
      g_in v3 16 (
      if (s0.2.2.1 2 v3.toNatClampNeg) = (s1.2.2.1 2 v3.toNatClampNeg) then
        thn (v3 + 1) fun x2 =>
        some (.inl x2)
      else
        some (.inr (.inl v3))))
    else
      some (.inr (.inl v3))))
theorem X2_firstDifference_b14_ok (ho : xok [(2, b0), (2, b1)] h.2.1) (v2 : Int32) (v3 : Int32) (s0 : RS) (s1 : RS) : aS l 1 MX2_firstDifference n0 S0 (a_LΦ (X2_firstDifference_x14 l n0 S0 h b0 b1 f0 f1 v2 s0 s1) l 1 MX2_firstDifference n0 S0 14 (fun (q : Int32) => [(0, .ref b0), (1, .ref b1), (2, .int v2), (3, .int q)]) (fun _ => []) (fun (q : Int32) => xw [(2, b0, f0, s0), (2, b1, f1, s1)] h)) 14 [(0, .ref b0), (1, .ref b1), (2, .int v2), (3, .int v3)] [] (xw [(2, b0, f0, s0), (2, b1, f1, s1)] h) (X2_firstDifference_b14 v2 v3 s0 s1) := by
  unfold X2_firstDifference_b14
  refine s_iload_n (pc := 14) 3 dX2_firstDifference_14 rfl ?_
  refine s_iload_n (pc := 15) 2 dX2_firstDifference_15 rfl ?_
  refine s_icmp_ge (tgt := 57) (pc := 16) dX2_firstDifference_16 (by decide) (fun _ => ?_) (fun _ => ?_)
  · refine s_sub [0, 1, 2] rfl ?_
    exact s_ev (fun _ _ q => q)
  · refine s_aload_n (pc := 19) 0 dX2_firstDifference_19 rfl ?_
    refine xg_X2_15 0 ho rfl (pc := 20) dX2_firstDifference_20 rfl ?_
    refine s_iload_n (pc := 23) 3 dX2_firstDifference_23 rfl ?_
    refine xl_2_1 0 ho rfl (pc := 24) dX2_firstDifference_24 ?_
    refine s_aload_n (pc := 25) 1 dX2_firstDifference_25 rfl ?_
    refine xg_X2_15 1 ho rfl (pc := 26) dX2_firstDifference_26 rfl ?_
    refine s_iload_n (pc := 29) 3 dX2_firstDifference_29 rfl ?_
    refine xl_2_1 1 ho rfl (pc := 30) dX2_firstDifference_30 ?_
    refine s_icmp_ne (tgt := 49) (pc := 31) dX2_firstDifference_31 (by decide) (fun _ => ?_) (fun _ => ?_)
    · refine s_aload_n (pc := 34) 0 dX2_firstDifference_34 rfl ?_
      refine xg_X2_19 0 ho rfl (pc := 35) dX2_firstDifference_35 rfl ?_
      refine s_iload_n (pc := 38) 3 dX2_firstDifference_38 rfl ?_
      refine xl_2_2 0 ho rfl (pc := 39) dX2_firstDifference_39 ?_
      refine s_aload_n (pc := 40) 1 dX2_firstDifference_40 rfl ?_
      refine xg_X2_19 1 ho rfl (pc := 41) dX2_firstDifference_41 rfl ?_
      refine s_iload_n (pc := 44) 3 dX2_firstDifference_44 rfl ?_
      refine xl_2_2 1 ho rfl (pc := 45) dX2_firstDifference_45 ?_
      refine s_icmp_eq (tgt := 51) (pc := 46) dX2_firstDifference_46 (by decide) (fun _ => ?_) (fun _ => ?_)
      · refine s_iincT (pc := 51) 3 (lv' := fun x2 => [(3, .int x2), (0, .ref b0), (1, .ref b1), (2, .int v2)]) dX2_firstDifference_51 rfl rfl (by decide) (fun _ => rfl) (fun x2 => ?_)
        refine s_goto (tgt := 14) (pc := 54) dX2_firstDifference_54 (by decide) ?_
        refine s_sub [1, 2, 3, 0] rfl ?_
        exact s_ev (fun _ _ q => q)
      · refine s_sub [3] rfl ?_
        exact s_ev (fun _ _ q => q)
    · refine s_sub [3] rfl ?_
      exact s_ev (fun _ _ q => q)
def pX2_firstDifference (s0 : RS) (s1 : RS) : Option Int32 :=
  (pJ9_min_7cf53 (s0.1 0) (s1.1 0)).bind fun x1 =>
  (a_loop (fun (q : Int32) => X2_firstDifference_b14 x1 q s0 s1) FU (0 : Int32)).bind (Sum.elim (fun (t3 : Int32) =>
      some t3)
    (fun (t4 : Unit) =>
      if (s0.1 0) = (s1.1 0) then
        some (-1 : Int32)
      else
        some x1))
theorem pX2_firstDifference_w (ho : xok [(2, b0), (2, b1)] h.2.1) (s0 : RS) (s1 : RS) : aS l 1 MX2_firstDifference n0 S0 (oΦ (fun (x : Int32) => ((some (.int x)), xw [(2, b0, f0, s0), (2, b1, f1, s1)] h))) 0 [(0, .ref b0), (1, .ref b1)] [] (xw [(2, b0, f0, s0), (2, b1, f1, s1)] h) (pX2_firstDifference s0 s1) := by
  unfold pX2_firstDifference
  refine s_aload_n (pc := 0) 0 dX2_firstDifference_0 rfl ?_
  refine xg_X2_9 0 ho rfl (pc := 1) dX2_firstDifference_1 rfl ?_
  refine s_aload_n (pc := 4) 1 dX2_firstDifference_4 rfl ?_
  refine xg_X2_9 1 ho rfl (pc := 5) dX2_firstDifference_5 rfl ?_
  refine s_callS (M := MX2_firstDifference) (As := [.int (s0.1 0), .int (s1.1 0)]) (st := []) (Ψ := fun (x : Int32) => (some (.int x), xw [(2, b0, f0, s0), (2, b1, f1, s1)] h)) cs_X2_54 (by decide) (pc := 8) dX2_firstDifference_8 rfl (Nat.le_of_ble_eq_true rfl) (fun x hx => pJ9_min_7cf53_ok (s0.1 0) (s1.1 0) x hx) rfl (fun x1 _ => ?_)
  refine s_istore_n (lv' := [(2, .int x1), (0, .ref b0), (1, .ref b1)]) (pc := 11) dX2_firstDifference_11 (by decide) rfl ?_
  refine s_iconst (v := 0) (pc := 12) dX2_firstDifference_12 (by decide) ?_
  refine s_istore_n (lv' := [(3, .int 0), (2, .int x1), (0, .ref b0), (1, .ref b1)]) (pc := 13) dX2_firstDifference_13 (by decide) rfl ?_
  refine s_bind (Ψ := X2_firstDifference_x14 l n0 S0 h b0 b1 f0 f1 x1 s0 s1) ?_ ?_
  · refine s_sub [2, 3, 1, 0] rfl ?_
    exact s_loop (lvf := fun (q : Int32) => [(0, .ref b0), (1, .ref b1), (2, .int x1), (3, .int q)]) (stf := fun _ => []) (hf := fun (q : Int32) => xw [(2, b0, f0, s0), (2, b1, f1, s1)] h) (fun q => X2_firstDifference_b14_ok ho x1 q s0 s1) FU (0 : Int32)
  · intro x z r h' hz hr
    rcases x with t3 | t4
    · refine (?_ : aS l 1 MX2_firstDifference n0 S0 (oΦ (fun (x : Int32) => ((some (.int x)), xw [(2, b0, f0, s0), (2, b1, f1, s1)] h))) 49 [(3, .int t3)] [] (xw [(2, b0, f0, s0), (2, b1, f1, s1)] h) _) z (show _ = some z from hz) r h' hr
      refine s_iload_n (pc := 49) 0 dX2_firstDifference_49 rfl ?_
      exact s_iret (pc := 50) dX2_firstDifference_50 rfl (fun _ _ q => q)
    · refine (?_ : aS l 1 MX2_firstDifference n0 S0 (oΦ (fun (x : Int32) => ((some (.int x)), xw [(2, b0, f0, s0), (2, b1, f1, s1)] h))) 57 [(0, .ref b0), (1, .ref b1), (2, .int x1)] [] (xw [(2, b0, f0, s0), (2, b1, f1, s1)] h) _) z (show _ = some z from hz) r h' hr
      refine s_aload_n (pc := 57) 0 dX2_firstDifference_57 rfl ?_
      refine xg_X2_9 0 ho rfl (pc := 58) dX2_firstDifference_58 rfl ?_
      refine s_aload_n (pc := 61) 1 dX2_firstDifference_61 rfl ?_
      refine xg_X2_9 1 ho rfl (pc := 62) dX2_firstDifference_62 rfl ?_
      refine s_icmp_ne (tgt := 72) (pc := 65) dX2_firstDifference_65 (by decide) (fun _ => ?_) (fun _ => ?_)
      · refine s_iconst (v := (-1)) (pc := 68) dX2_firstDifference_68 (by decide) ?_
        refine s_goto (tgt := 73) (pc := 69) dX2_firstDifference_69 (by decide) ?_
        exact s_iret (pc := 73) dX2_firstDifference_73 rfl (fun _ _ q => q)
      · refine s_iload_n (pc := 72) 2 dX2_firstDifference_72 rfl ?_
        exact s_iret (pc := 73) dX2_firstDifference_73 rfl (fun _ _ q => q)
theorem pX2_firstDifference_ok (ho : xok [(2, b0), (2, b1)] h.2.1) (s0 : RS) (s1 : RS) : ∀ x, pX2_firstDifference s0 s1 = some x → aMet l 1 yX2_firstDifference cX2_firstDifference 4 (some .int) [.ref b0, .ref b1] (xw [(2, b0, f0, s0), (2, b1, f1, s1)] h) (some (.int x)) (xw [(2, b0, f0, s0), (2, b1, f1, s1)] h) := fun x hx => a_meth (ini := false) (y := yX2_firstDifference) (by decide +kernel) (fun q => by cases q) (fun _ => Nat.le_of_ble_eq_true rfl) (pX2_firstDifference_w ho s0 s1) x hx _ _ ⟨rfl, rfl⟩
end
section
variable {l : Launch} {n0 S0 : Nat} {h : aH} {b0 b1 : Nat} {f0 f1 : Nat → Option Nat}
abbrev MX2_isLike : aM := (cX2_isLike, RX2, 3, (some .boolean), false)
def X2_isLike_x13 (l : Launch) (n0 S0 : Nat) (h : aH) (b0 : Nat) (b1 : Nat) (f0 : Nat → Option Nat) (f1 : Nat → Option Nat) (s0 : RS) (s1 : RS) : (Unit ⊕ Unit) → Option Value → aH → Prop := Sum.elim (fun (x : Unit) (r : Option Value) (h' : aH) => aEv l 2 MX2_isLike n0 S0 36 [] [] (xw [(2, b0, f0, s0), (2, b1, f1, s1)] h) r h') (fun (x : Unit) (r : Option Value) (h' : aH) => aEv l 2 MX2_isLike n0 S0 44 [] [] (xw [(2, b0, f0, s0), (2, b1, f1, s1)] h) r h')
def X2_isLike_b13 (v2 : Int32) (s0 : RS) (s1 : RS) : Option (Int32 ⊕ (Unit ⊕ Unit)) :=
  if (s0.1 0) ≤ v2 then
    some (.inr (.inr ()))
  else
    g_in v2 16 (
    g_in v2 16 (
    if (s0.2.2.1 3 v2.toNatClampNeg) = (s1.2.2.1 3 v2.toNatClampNeg) then
      thn (v2 + 1) fun x2 =>
      some (.inl x2)
    else
      some (.inr (.inl ()))))
theorem X2_isLike_b13_ok (ho : xok [(2, b0), (2, b1)] h.2.1) (v2 : Int32) (s0 : RS) (s1 : RS) : aS l 2 MX2_isLike n0 S0 (a_LΦ (X2_isLike_x13 l n0 S0 h b0 b1 f0 f1 s0 s1) l 2 MX2_isLike n0 S0 13 (fun (q : Int32) => [(0, .ref b0), (1, .ref b1), (2, .int q)]) (fun _ => []) (fun (q : Int32) => xw [(2, b0, f0, s0), (2, b1, f1, s1)] h)) 13 [(0, .ref b0), (1, .ref b1), (2, .int v2)] [] (xw [(2, b0, f0, s0), (2, b1, f1, s1)] h) (X2_isLike_b13 v2 s0 s1) := by
  unfold X2_isLike_b13
  refine s_iload_n (pc := 13) 2 dX2_isLike_13 rfl ?_
  refine s_aload_n (pc := 14) 0 dX2_isLike_14 rfl ?_
  refine xg_X2_9 0 ho rfl (pc := 15) dX2_isLike_15 rfl ?_
  refine s_icmp_ge (tgt := 44) (pc := 18) dX2_isLike_18 (by decide) (fun _ => ?_) (fun _ => ?_)
  · refine s_sub [] rfl ?_
    exact s_ev (fun _ _ q => q)
  · refine s_aload_n (pc := 21) 0 dX2_isLike_21 rfl ?_
    refine xg_X2_22 0 ho rfl (pc := 22) dX2_isLike_22 rfl ?_
    refine s_iload_n (pc := 25) 2 dX2_isLike_25 rfl ?_
    refine xl_2_3 0 ho rfl (pc := 26) dX2_isLike_26 ?_
    refine s_aload_n (pc := 27) 1 dX2_isLike_27 rfl ?_
    refine xg_X2_22 1 ho rfl (pc := 28) dX2_isLike_28 rfl ?_
    refine s_iload_n (pc := 31) 2 dX2_isLike_31 rfl ?_
    refine xl_2_3 1 ho rfl (pc := 32) dX2_isLike_32 ?_
    refine s_icmp_eq (tgt := 38) (pc := 33) dX2_isLike_33 (by decide) (fun _ => ?_) (fun _ => ?_)
    · refine s_iincT (pc := 38) 2 (lv' := fun x2 => [(2, .int x2), (0, .ref b0), (1, .ref b1)]) dX2_isLike_38 rfl rfl (by decide) (fun _ => rfl) (fun x2 => ?_)
      refine s_goto (tgt := 13) (pc := 41) dX2_isLike_41 (by decide) ?_
      refine s_sub [1, 2, 0] rfl ?_
      exact s_ev (fun _ _ q => q)
    · refine s_sub [] rfl ?_
      exact s_ev (fun _ _ q => q)
def pX2_isLike (s0 : RS) (s1 : RS) : Option Bool :=
  (pX2_firstDifference s0 s1).bind fun x1 =>
  if x1 = (-1 : Int32) then
    (a_loop (fun (q : Int32) => X2_isLike_b13 q s0 s1) FU (0 : Int32)).bind (Sum.elim (fun (t3 : Unit) =>
        some false)
      (fun (t4 : Unit) =>
        some true))
  else
    some false
theorem pX2_isLike_w (ho : xok [(2, b0), (2, b1)] h.2.1) (s0 : RS) (s1 : RS) : aS l 2 MX2_isLike n0 S0 (oΦ (fun (x : Bool) => ((some (.int (b2i x))), xw [(2, b0, f0, s0), (2, b1, f1, s1)] h))) 0 [(0, .ref b0), (1, .ref b1)] [] (xw [(2, b0, f0, s0), (2, b1, f1, s1)] h) (pX2_isLike s0 s1) := by
  unfold pX2_isLike
  refine s_aload_n (pc := 0) 0 dX2_isLike_0 rfl ?_
  refine s_aload_n (pc := 1) 1 dX2_isLike_1 rfl ?_
  refine x_callV (M := MX2_isLike) (L := [(2, b0, f0, s0), (2, b1, f1, s1)]) (h := h) (j := 0) (As := [.ref b1]) (st := []) (A := fun (x : Int32) => some (.int x)) (Lc := [(2, b0, f0, s0), (2, b1, f1, s1)]) (Lr := fun (x : Int32) => [(2, b0, f0, s0), (2, b1, f1, s1)]) (L2 := fun (x : Int32) => [(2, b0, f0, s0), (2, b1, f1, s1)]) cv_X2_60 (by decide) (pc := 2) dX2_isLike_2 ho rfl xc0_2 rfl rfl (Nat.le_of_ble_eq_true rfl) (xovs (L := [(2, b0, f0, s0), (2, b1, f1, s1)]) (h := h) [(0, (2, b0, f0, s0)), (1, (2, b1, f1, s1))] ho ⟨rfl, rfl, trivial⟩).1 (fun x => (xovs (L := [(2, b0, f0, s0), (2, b1, f1, s1)]) (h := h) [(0, (2, b0, f0, s0)), (1, (2, b1, f1, s1))] ho ⟨rfl, rfl, trivial⟩).1) (fun x hx => pX2_firstDifference_ok (h := xw [(2, b0, f0, s0), (2, b1, f1, s1)] h) (f0 := f0) (f1 := f1) (xok_sub ho [0, 1] rfl (by decide)) s0 s1 x hx) rfl (fun x1 _ => ?_)
  refine s_iconst (v := (-1)) (pc := 5) dX2_isLike_5 (by decide) ?_
  refine s_icmp_eq (tgt := 11) (pc := 6) dX2_isLike_6 (by decide) (fun _ => ?_) (fun _ => ?_)
  · refine s_iconst (v := 0) (pc := 11) dX2_isLike_11 (by decide) ?_
    refine s_istore_n (lv' := [(2, .int 0), (0, .ref b0), (1, .ref b1)]) (pc := 12) dX2_isLike_12 (by decide) rfl ?_
    refine s_bind (Ψ := X2_isLike_x13 l n0 S0 h b0 b1 f0 f1 s0 s1) ?_ ?_
    · refine s_sub [1, 2, 0] rfl ?_
      exact s_loop (lvf := fun (q : Int32) => [(0, .ref b0), (1, .ref b1), (2, .int q)]) (stf := fun _ => []) (hf := fun (q : Int32) => xw [(2, b0, f0, s0), (2, b1, f1, s1)] h) (fun q => X2_isLike_b13_ok ho q s0 s1) FU (0 : Int32)
    · intro x z r h' hz hr
      rcases x with t3 | t4
      · refine (?_ : aS l 2 MX2_isLike n0 S0 (oΦ (fun (x : Bool) => ((some (.int (b2i x))), xw [(2, b0, f0, s0), (2, b1, f1, s1)] h))) 36 [] [] (xw [(2, b0, f0, s0), (2, b1, f1, s1)] h) _) z (show _ = some z from hz) r h' hr
        refine s_iconst (v := 0) (pc := 36) dX2_isLike_36 (by decide) ?_
        exact s_zretB (b := false) (pc := 37) dX2_isLike_37 rfl (fun _ _ q => q)
      · refine (?_ : aS l 2 MX2_isLike n0 S0 (oΦ (fun (x : Bool) => ((some (.int (b2i x))), xw [(2, b0, f0, s0), (2, b1, f1, s1)] h))) 44 [] [] (xw [(2, b0, f0, s0), (2, b1, f1, s1)] h) _) z (show _ = some z from hz) r h' hr
        refine s_iconst (v := 1) (pc := 44) dX2_isLike_44 (by decide) ?_
        exact s_zretB (b := true) (pc := 45) dX2_isLike_45 rfl (fun _ _ q => q)
  · refine s_iconst (v := 0) (pc := 9) dX2_isLike_9 (by decide) ?_
    exact s_zretB (b := false) (pc := 10) dX2_isLike_10 rfl (fun _ _ q => q)
theorem pX2_isLike_ok (ho : xok [(2, b0), (2, b1)] h.2.1) (s0 : RS) (s1 : RS) : ∀ x, pX2_isLike s0 s1 = some x → aMet l 2 yX2_isLike cX2_isLike 3 (some .boolean) [.ref b0, .ref b1] (xw [(2, b0, f0, s0), (2, b1, f1, s1)] h) (some (.int (b2i x))) (xw [(2, b0, f0, s0), (2, b1, f1, s1)] h) := fun x hx => a_meth (ini := false) (y := yX2_isLike) (by decide +kernel) (fun q => by cases q) (fun _ => Nat.le_of_ble_eq_true rfl) (pX2_isLike_w ho s0 s1) x hx _ _ ⟨rfl, rfl⟩
end
section
variable {l : Launch} {n0 S0 : Nat} {h : aH} {b0 b1 : Nat} {f0 f1 : Nat → Option Nat}
abbrev MX7_begin : aM := (cX7_begin, RX7, 3, none, false)
def X7_begin_x17 (l : Launch) (n0 S0 : Nat) (h : aH) (b0 : Nat) (b1 : Nat) (f0 : Nat → Option Nat) (f1 : Nat → Option Nat) (s1 : RS) : RS → Option Value → aH → Prop := fun (x : RS) r h' => aEv l 0 MX7_begin n0 S0 35 [] [] (xw [(7, b0, f0, x), (0, b1, f1, s1)] h) r h'
def X7_begin_b17 (v2 : Int32) (s0 : RS) (s1 : RS) : Option ((Int32 × RS) ⊕ RS) :=
  if (4 : Int32) ≤ v2 then
    some (.inr s0)
  else
    g_in v2 4 (thn (uA s0 2 (upd (s0.2.2.1 2) v2.toNatClampNeg (0 : Int32))) fun s_2 =>
    thn (v2 + 1) fun x3 =>
    some (.inl (x3, s_2)))
theorem X7_begin_b17_ok (ho : xok [(7, b0), (0, b1)] h.2.1) (hq_0_0 : f0 0 = some b1) (hq_0_1 : f0 1 = none) (v2 : Int32) (s0 : RS) (s1 : RS) : aS l 0 MX7_begin n0 S0 (a_LΦ (X7_begin_x17 l n0 S0 h b0 b1 f0 f1 s1) l 0 MX7_begin n0 S0 17 (fun (q : Int32 × RS) => [(0, .ref b0), (2, .int q.1)]) (fun _ => []) (fun (q : Int32 × RS) => xw [(7, b0, f0, q.2), (0, b1, f1, s1)] h)) 17 [(0, .ref b0), (2, .int v2)] [] (xw [(7, b0, f0, s0), (0, b1, f1, s1)] h) (X7_begin_b17 v2 s0 s1) := by
  unfold X7_begin_b17
  refine s_iload_n (pc := 17) 1 dX7_begin_17 rfl ?_
  refine s_iconst (v := 4) (pc := 18) dX7_begin_18 (by decide) ?_
  refine s_icmp_ge (tgt := 35) (pc := 19) dX7_begin_19 (by decide) (fun _ => ?_) (fun _ => ?_)
  · refine s_sub [] rfl ?_
    exact s_ev (fun _ _ q => q)
  · refine s_aload_n (pc := 22) 0 dX7_begin_22 rfl ?_
    refine xg_X7_22 0 ho rfl (pc := 23) dX7_begin_23 rfl ?_
    refine s_iload_n (pc := 26) 1 dX7_begin_26 rfl ?_
    refine s_iconst (v := 0) (pc := 27) dX7_begin_27 (by decide) ?_
    refine xs_7_2 (L' := fun s_2 => [(7, b0, f0, s_2), (0, b1, f1, s1)]) 0 ho rfl (fun _ => rfl) (pc := 28) dX7_begin_28 (fun s_2 => ?_)
    refine s_iincT (pc := 29) 1 (lv' := fun x3 => [(2, .int x3), (0, .ref b0)]) dX7_begin_29 rfl rfl (by decide) (fun _ => rfl) (fun x3 => ?_)
    refine s_goto (tgt := 17) (pc := 32) dX7_begin_32 (by decide) ?_
    refine s_sub [1, 0] rfl ?_
    exact s_ev (fun _ _ q => q)
def pX7_begin (s0 : RS) (s1 : RS) : Option RS :=
  thn (uI s0 4 (0 : Int32)) fun s_1 =>
  (a_loop (fun (q : Int32 × RS) => X7_begin_b17 q.1 q.2 s1) FU ((0 : Int32), s_1)).bind fun (t4 : RS) =>
    some t4
theorem pX7_begin_w (ho : xok [(7, b0), (0, b1)] h.2.1) (s0 : RS) (s1 : RS) : aS l 0 MX7_begin n0 S0 (oΦ (fun (x : RS) => (none, xw [(7, b0, (va_up (va_up f0 0 (some b1)) 1 none), x), (0, b1, f1, s1)] h))) 0 [(0, .ref b0), (1, .ref b1)] [] (xw [(7, b0, f0, s0), (0, b1, f1, s1)] h) (pX7_begin s0 s1) := by
  unfold pX7_begin
  refine s_aload_n (pc := 0) 0 dX7_begin_0 rfl ?_
  refine s_aload_n (pc := 1) 1 dX7_begin_1 rfl ?_
  refine xp_X7_12 (L2 := [(7, b0, (va_up f0 0 (some b1)), s0), (0, b1, f1, s1)]) 0 ho rfl rfl (pc := 2) dX7_begin_2 rfl ?_
  refine s_aload_n (pc := 5) 0 dX7_begin_5 rfl ?_
  refine s_null (pc := 6) dX7_begin_6 ?_
  refine xpN_X7_18 (L2 := [(7, b0, (va_up (va_up f0 0 (some b1)) 1 none), s0), (0, b1, f1, s1)]) 0 ho rfl rfl (pc := 7) dX7_begin_7 rfl ?_
  refine s_aload_n (pc := 10) 0 dX7_begin_10 rfl ?_
  refine s_iconst (v := 0) (pc := 11) dX7_begin_11 (by decide) ?_
  refine xp_X7_29 (L' := fun s_1 => [(7, b0, (va_up (va_up f0 0 (some b1)) 1 none), s_1), (0, b1, f1, s1)]) 0 ho rfl (fun _ => rfl) (pc := 12) dX7_begin_12 rfl (fun s_1 => ?_)
  refine s_iconst (v := 0) (pc := 15) dX7_begin_15 (by decide) ?_
  refine s_istore_n (lv' := [(2, .int 0), (0, .ref b0), (1, .ref b1)]) (pc := 16) dX7_begin_16 (by decide) rfl ?_
  refine s_bind (Ψ := X7_begin_x17 l n0 S0 h b0 b1 (va_up (va_up f0 0 (some b1)) 1 none) f1 s1) ?_ ?_
  · refine s_sub [1, 0] rfl ?_
    exact s_loop (lvf := fun (q : Int32 × RS) => [(0, .ref b0), (2, .int q.1)]) (stf := fun _ => []) (hf := fun (q : Int32 × RS) => xw [(7, b0, (va_up (va_up f0 0 (some b1)) 1 none), q.2), (0, b1, f1, s1)] h) (fun q => X7_begin_b17_ok (f0 := (va_up (va_up f0 0 (some b1)) 1 none)) ho rfl rfl q.1 q.2 s1) FU ((0 : Int32), s_1)
  · intro t4 z r h' hz hr
    refine (?_ : aS l 0 MX7_begin n0 S0 (oΦ (fun (x : RS) => (none, xw [(7, b0, (va_up (va_up f0 0 (some b1)) 1 none), x), (0, b1, f1, s1)] h))) 35 [] [] (xw [(7, b0, (va_up (va_up f0 0 (some b1)) 1 none), t4), (0, b1, f1, s1)] h) _) z hz r h' hr
    exact s_vret (pc := 35) dX7_begin_35 rfl (fun _ _ q => q)
theorem pX7_begin_ok (ho : xok [(7, b0), (0, b1)] h.2.1) (s0 : RS) (s1 : RS) : ∀ x, pX7_begin s0 s1 = some x → aMet l 0 yX7_begin cX7_begin 3 none [.ref b0, .ref b1] (xw [(7, b0, f0, s0), (0, b1, f1, s1)] h) none (xw [(7, b0, (va_up (va_up f0 0 (some b1)) 1 none), x), (0, b1, f1, s1)] h) := fun x hx => a_meth (ini := false) (y := yX7_begin) (by decide +kernel) (fun q => by cases q) (fun _ => Nat.le_of_ble_eq_true rfl) (pX7_begin_w ho s0 s1) x hx _ _ ⟨rfl, rfl⟩
end
section
variable {l : Launch} {n0 S0 : Nat} {h : aH} {b0 b1 b2 b3 : Nat} {f0 f1 f2 f3 : Nat → Option Nat}
abbrev MX7_copyFrom : aM := (cX7_copyFrom, RX7, 2, none, false)
def pX7_copyFrom (s0 : RS) (s1 : RS) (s2 : RS) (s3 : RS) : Option RS :=
  thn (uI s0 4 (s1.1 4)) fun s_1 =>
  g_cp (0 : Int32) (0 : Int32) (4 : Int32) 4 4 (thn (uA s_1 2 (va_cpy (s1.2.2.1 2) (s_1.2.2.1 2) (0 : Int32).toNatClampNeg (0 : Int32).toNatClampNeg (4 : Int32).toNatClampNeg)) fun s_2 =>
  g_cp (0 : Int32) (0 : Int32) (16 : Int32) 16 16 (thn (uA s_2 3 (va_cpy (s1.2.2.1 3) (s_2.2.2.1 3) (0 : Int32).toNatClampNeg (0 : Int32).toNatClampNeg (16 : Int32).toNatClampNeg)) fun s_3 =>
  some s_3))
theorem pX7_copyFrom_w (ho : xok [(7, b0), (7, b1), (0, b2), (3, b3)] h.2.1) (hq_1_0 : f1 0 = some b2) (hq_1_1 : f1 1 = some b3) (s0 : RS) (s1 : RS) (s2 : RS) (s3 : RS) : aS l 1 MX7_copyFrom n0 S0 (oΦ (fun (x : RS) => (none, xw [(7, b0, (va_up (va_up f0 0 (some b2)) 1 (some b3)), x), (7, b1, f1, s1), (0, b2, f2, s2), (3, b3, f3, s3)] h))) 0 [(0, .ref b0), (1, .ref b1)] [] (xw [(7, b0, f0, s0), (7, b1, f1, s1), (0, b2, f2, s2), (3, b3, f3, s3)] h) (pX7_copyFrom s0 s1 s2 s3) := by
  unfold pX7_copyFrom
  refine s_aload_n (pc := 0) 0 dX7_copyFrom_0 rfl ?_
  refine s_aload_n (pc := 1) 1 dX7_copyFrom_1 rfl ?_
  refine xg_X7_12 1 ho rfl (pc := 2) dX7_copyFrom_2 rfl hq_1_0 ?_
  refine xp_X7_12 (L2 := [(7, b0, (va_up f0 0 (some b2)), s0), (7, b1, f1, s1), (0, b2, f2, s2), (3, b3, f3, s3)]) 0 ho rfl rfl (pc := 5) dX7_copyFrom_5 rfl ?_
  refine s_aload_n (pc := 8) 0 dX7_copyFrom_8 rfl ?_
  refine s_aload_n (pc := 9) 1 dX7_copyFrom_9 rfl ?_
  refine xg_X7_18 1 ho rfl (pc := 10) dX7_copyFrom_10 rfl hq_1_1 ?_
  refine xp_X7_18 (L2 := [(7, b0, (va_up (va_up f0 0 (some b2)) 1 (some b3)), s0), (7, b1, f1, s1), (0, b2, f2, s2), (3, b3, f3, s3)]) 0 ho rfl rfl (pc := 13) dX7_copyFrom_13 rfl ?_
  refine s_aload_n (pc := 16) 0 dX7_copyFrom_16 rfl ?_
  refine s_aload_n (pc := 17) 1 dX7_copyFrom_17 rfl ?_
  refine xg_X7_29 1 ho rfl (pc := 18) dX7_copyFrom_18 rfl ?_
  refine xp_X7_29 (L' := fun s_1 => [(7, b0, (va_up (va_up f0 0 (some b2)) 1 (some b3)), s_1), (7, b1, f1, s1), (0, b2, f2, s2), (3, b3, f3, s3)]) 0 ho rfl (fun _ => rfl) (pc := 21) dX7_copyFrom_21 rfl (fun s_1 => ?_)
  refine s_aload_n (pc := 24) 1 dX7_copyFrom_24 rfl ?_
  refine xg_X7_22 1 ho rfl (pc := 25) dX7_copyFrom_25 rfl ?_
  refine s_iconst (v := 0) (pc := 28) dX7_copyFrom_28 (by decide) ?_
  refine s_aload_n (pc := 29) 0 dX7_copyFrom_29 rfl ?_
  refine xg_X7_22 0 ho rfl (pc := 30) dX7_copyFrom_30 rfl ?_
  refine s_iconst (v := 0) (pc := 33) dX7_copyFrom_33 (by decide) ?_
  refine s_iconst (v := 4) (pc := 34) dX7_copyFrom_34 (by decide) ?_
  refine x_copyI (L' := fun s_2 => [(7, b0, (va_up (va_up f0 0 (some b2)) 1 (some b3)), s_2), (7, b1, f1, s1), (0, b2, f2, s2), (3, b3, f3, s3)]) (s' := uA s_1 2 (va_cpy (s1.2.2.1 2) (s_1.2.2.1 2) (0 : Int32).toNatClampNeg (0 : Int32).toNatClampNeg (4 : Int32).toNatClampNeg)) 1 0 ho rfl rfl rfl rfl rfl rfl rfl xu7_2 (fun _ => rfl) wm_X7_33 (by decide) (Nat.le_of_ble_eq_true rfl) (pc := 35) dX7_copyFrom_35 (fun s_2 => ?_)
  refine s_aload_n (pc := 38) 1 dX7_copyFrom_38 rfl ?_
  refine xg_X7_26 1 ho rfl (pc := 39) dX7_copyFrom_39 rfl ?_
  refine s_iconst (v := 0) (pc := 42) dX7_copyFrom_42 (by decide) ?_
  refine s_aload_n (pc := 43) 0 dX7_copyFrom_43 rfl ?_
  refine xg_X7_26 0 ho rfl (pc := 44) dX7_copyFrom_44 rfl ?_
  refine s_iconst (v := 0) (pc := 47) dX7_copyFrom_47 (by decide) ?_
  refine s_bipush (v := 16) (pc := 48) dX7_copyFrom_48 (by decide) ?_
  refine x_copyI (L' := fun s_3 => [(7, b0, (va_up (va_up f0 0 (some b2)) 1 (some b3)), s_3), (7, b1, f1, s1), (0, b2, f2, s2), (3, b3, f3, s3)]) (s' := uA s_2 3 (va_cpy (s1.2.2.1 3) (s_2.2.2.1 3) (0 : Int32).toNatClampNeg (0 : Int32).toNatClampNeg (16 : Int32).toNatClampNeg)) 1 0 ho rfl rfl rfl rfl rfl rfl rfl xu7_3 (fun _ => rfl) wm_X7_33 (by decide) (Nat.le_of_ble_eq_true rfl) (pc := 50) dX7_copyFrom_50 (fun s_3 => ?_)
  exact s_vret (pc := 53) dX7_copyFrom_53 rfl (fun _ _ q => q)
theorem pX7_copyFrom_ok (ho : xok [(7, b0), (7, b1), (0, b2), (3, b3)] h.2.1) (hq_1_0 : f1 0 = some b2) (hq_1_1 : f1 1 = some b3) (s0 : RS) (s1 : RS) (s2 : RS) (s3 : RS) : ∀ x, pX7_copyFrom s0 s1 s2 s3 = some x → aMet l 1 yX7_copyFrom cX7_copyFrom 2 none [.ref b0, .ref b1] (xw [(7, b0, f0, s0), (7, b1, f1, s1), (0, b2, f2, s2), (3, b3, f3, s3)] h) none (xw [(7, b0, (va_up (va_up f0 0 (some b2)) 1 (some b3)), x), (7, b1, f1, s1), (0, b2, f2, s2), (3, b3, f3, s3)] h) := fun x hx => a_meth (ini := false) (y := yX7_copyFrom) (by decide +kernel) (fun q => by cases q) (fun _ => Nat.le_of_ble_eq_true rfl) (pX7_copyFrom_w ho hq_1_0 hq_1_1 s0 s1 s2 s3) x hx _ _ ⟨rfl, rfl⟩
end
section
variable {l : Launch} {n0 S0 : Nat} {h : aH} {b0 b1 b2 : Nat} {f0 f1 f2 : Nat → Option Nat}
def pX7_copyFromN (s0 : RS) (s1 : RS) (s2 : RS) : Option RS :=
  thn (uI s0 4 (s1.1 4)) fun s_1 =>
  g_cp (0 : Int32) (0 : Int32) (4 : Int32) 4 4 (thn (uA s_1 2 (va_cpy (s1.2.2.1 2) (s_1.2.2.1 2) (0 : Int32).toNatClampNeg (0 : Int32).toNatClampNeg (4 : Int32).toNatClampNeg)) fun s_2 =>
  g_cp (0 : Int32) (0 : Int32) (16 : Int32) 16 16 (thn (uA s_2 3 (va_cpy (s1.2.2.1 3) (s_2.2.2.1 3) (0 : Int32).toNatClampNeg (0 : Int32).toNatClampNeg (16 : Int32).toNatClampNeg)) fun s_3 =>
  some s_3))
theorem pX7_copyFromN_w (ho : xok [(7, b0), (7, b1), (0, b2)] h.2.1) (hq_1_0 : f1 0 = some b2) (hq_1_1 : f1 1 = none) (s0 : RS) (s1 : RS) (s2 : RS) : aS l 1 MX7_copyFrom n0 S0 (oΦ (fun (x : RS) => (none, xw [(7, b0, (va_up (va_up f0 0 (some b2)) 1 none), x), (7, b1, f1, s1), (0, b2, f2, s2)] h))) 0 [(0, .ref b0), (1, .ref b1)] [] (xw [(7, b0, f0, s0), (7, b1, f1, s1), (0, b2, f2, s2)] h) (pX7_copyFromN s0 s1 s2) := by
  unfold pX7_copyFromN
  refine s_aload_n (pc := 0) 0 dX7_copyFrom_0 rfl ?_
  refine s_aload_n (pc := 1) 1 dX7_copyFrom_1 rfl ?_
  refine xg_X7_12 1 ho rfl (pc := 2) dX7_copyFrom_2 rfl hq_1_0 ?_
  refine xp_X7_12 (L2 := [(7, b0, (va_up f0 0 (some b2)), s0), (7, b1, f1, s1), (0, b2, f2, s2)]) 0 ho rfl rfl (pc := 5) dX7_copyFrom_5 rfl ?_
  refine s_aload_n (pc := 8) 0 dX7_copyFrom_8 rfl ?_
  refine s_aload_n (pc := 9) 1 dX7_copyFrom_9 rfl ?_
  refine xgN_X7_18 1 ho rfl (pc := 10) dX7_copyFrom_10 rfl hq_1_1 ?_
  refine xpN_X7_18 (L2 := [(7, b0, (va_up (va_up f0 0 (some b2)) 1 none), s0), (7, b1, f1, s1), (0, b2, f2, s2)]) 0 ho rfl rfl (pc := 13) dX7_copyFrom_13 rfl ?_
  refine s_aload_n (pc := 16) 0 dX7_copyFrom_16 rfl ?_
  refine s_aload_n (pc := 17) 1 dX7_copyFrom_17 rfl ?_
  refine xg_X7_29 1 ho rfl (pc := 18) dX7_copyFrom_18 rfl ?_
  refine xp_X7_29 (L' := fun s_1 => [(7, b0, (va_up (va_up f0 0 (some b2)) 1 none), s_1), (7, b1, f1, s1), (0, b2, f2, s2)]) 0 ho rfl (fun _ => rfl) (pc := 21) dX7_copyFrom_21 rfl (fun s_1 => ?_)
  refine s_aload_n (pc := 24) 1 dX7_copyFrom_24 rfl ?_
  refine xg_X7_22 1 ho rfl (pc := 25) dX7_copyFrom_25 rfl ?_
  refine s_iconst (v := 0) (pc := 28) dX7_copyFrom_28 (by decide) ?_
  refine s_aload_n (pc := 29) 0 dX7_copyFrom_29 rfl ?_
  refine xg_X7_22 0 ho rfl (pc := 30) dX7_copyFrom_30 rfl ?_
  refine s_iconst (v := 0) (pc := 33) dX7_copyFrom_33 (by decide) ?_
  refine s_iconst (v := 4) (pc := 34) dX7_copyFrom_34 (by decide) ?_
  refine x_copyI (L' := fun s_2 => [(7, b0, (va_up (va_up f0 0 (some b2)) 1 none), s_2), (7, b1, f1, s1), (0, b2, f2, s2)]) (s' := uA s_1 2 (va_cpy (s1.2.2.1 2) (s_1.2.2.1 2) (0 : Int32).toNatClampNeg (0 : Int32).toNatClampNeg (4 : Int32).toNatClampNeg)) 1 0 ho rfl rfl rfl rfl rfl rfl rfl xu7_2 (fun _ => rfl) wm_X7_33 (by decide) (Nat.le_of_ble_eq_true rfl) (pc := 35) dX7_copyFrom_35 (fun s_2 => ?_)
  refine s_aload_n (pc := 38) 1 dX7_copyFrom_38 rfl ?_
  refine xg_X7_26 1 ho rfl (pc := 39) dX7_copyFrom_39 rfl ?_
  refine s_iconst (v := 0) (pc := 42) dX7_copyFrom_42 (by decide) ?_
  refine s_aload_n (pc := 43) 0 dX7_copyFrom_43 rfl ?_
  refine xg_X7_26 0 ho rfl (pc := 44) dX7_copyFrom_44 rfl ?_
  refine s_iconst (v := 0) (pc := 47) dX7_copyFrom_47 (by decide) ?_
  refine s_bipush (v := 16) (pc := 48) dX7_copyFrom_48 (by decide) ?_
  refine x_copyI (L' := fun s_3 => [(7, b0, (va_up (va_up f0 0 (some b2)) 1 none), s_3), (7, b1, f1, s1), (0, b2, f2, s2)]) (s' := uA s_2 3 (va_cpy (s1.2.2.1 3) (s_2.2.2.1 3) (0 : Int32).toNatClampNeg (0 : Int32).toNatClampNeg (16 : Int32).toNatClampNeg)) 1 0 ho rfl rfl rfl rfl rfl rfl rfl xu7_3 (fun _ => rfl) wm_X7_33 (by decide) (Nat.le_of_ble_eq_true rfl) (pc := 50) dX7_copyFrom_50 (fun s_3 => ?_)
  exact s_vret (pc := 53) dX7_copyFrom_53 rfl (fun _ _ q => q)
theorem pX7_copyFromN_ok (ho : xok [(7, b0), (7, b1), (0, b2)] h.2.1) (hq_1_0 : f1 0 = some b2) (hq_1_1 : f1 1 = none) (s0 : RS) (s1 : RS) (s2 : RS) : ∀ x, pX7_copyFromN s0 s1 s2 = some x → aMet l 1 yX7_copyFrom cX7_copyFrom 2 none [.ref b0, .ref b1] (xw [(7, b0, f0, s0), (7, b1, f1, s1), (0, b2, f2, s2)] h) none (xw [(7, b0, (va_up (va_up f0 0 (some b2)) 1 none), x), (7, b1, f1, s1), (0, b2, f2, s2)] h) := fun x hx => a_meth (ini := false) (y := yX7_copyFrom) (by decide +kernel) (fun q => by cases q) (fun _ => Nat.le_of_ble_eq_true rfl) (pX7_copyFromN_w ho hq_1_0 hq_1_1 s0 s1 s2) x hx _ _ ⟨rfl, rfl⟩
end
section
variable {l : Launch} {n0 S0 : Nat} {h : aH} {b0 : Nat} {f0 : Nat → Option Nat}
abbrev MX7_isInOrder : aM := (cX7_isInOrder, RX7, 2, (some .boolean), false)
def pX7_isInOrder (s0 : RS) (a0 : Int32) : Option Bool :=
  if a0 < 0 then
    some false
  else
    if (s0.1 4) ≤ a0 then
      some false
    else
      some true
theorem pX7_isInOrder_w (ho : xok [(7, b0)] h.2.1) (s0 : RS) (a0 : Int32) : aS l 0 MX7_isInOrder n0 S0 (oΦ (fun (x : Bool) => ((some (.int (b2i x))), xw [(7, b0, f0, s0)] h))) 0 [(0, .ref b0), (1, .int a0)] [] (xw [(7, b0, f0, s0)] h) (pX7_isInOrder s0 a0) := by
  unfold pX7_isInOrder
  refine s_iload_n (pc := 0) 1 dX7_isInOrder_0 rfl ?_
  refine s_if_lt (tgt := 16) (pc := 1) dX7_isInOrder_1 (by decide) (fun _ => ?_) (fun _ => ?_)
  · refine s_iconst (v := 0) (pc := 16) dX7_isInOrder_16 (by decide) ?_
    exact s_zretB (b := false) (pc := 17) dX7_isInOrder_17 rfl (fun _ _ q => q)
  · refine s_iload_n (pc := 4) 1 dX7_isInOrder_4 rfl ?_
    refine s_aload_n (pc := 5) 0 dX7_isInOrder_5 rfl ?_
    refine xg_X7_29 0 ho rfl (pc := 6) dX7_isInOrder_6 rfl ?_
    refine s_icmp_ge (tgt := 16) (pc := 9) dX7_isInOrder_9 (by decide) (fun _ => ?_) (fun _ => ?_)
    · refine s_iconst (v := 0) (pc := 16) dX7_isInOrder_16 (by decide) ?_
      exact s_zretB (b := false) (pc := 17) dX7_isInOrder_17 rfl (fun _ _ q => q)
    · refine s_iconst (v := 1) (pc := 12) dX7_isInOrder_12 (by decide) ?_
      refine s_goto (tgt := 17) (pc := 13) dX7_isInOrder_13 (by decide) ?_
      exact s_zretB (b := true) (pc := 17) dX7_isInOrder_17 rfl (fun _ _ q => q)
theorem pX7_isInOrder_ok (ho : xok [(7, b0)] h.2.1) (s0 : RS) (a0 : Int32) : ∀ x, pX7_isInOrder s0 a0 = some x → aMet l 0 yX7_isInOrder cX7_isInOrder 2 (some .boolean) [.ref b0, .int a0] (xw [(7, b0, f0, s0)] h) (some (.int (b2i x))) (xw [(7, b0, f0, s0)] h) := fun x hx => a_meth (ini := false) (y := yX7_isInOrder) (by decide +kernel) (fun q => by cases q) (fun _ => Nat.le_of_ble_eq_true rfl) (pX7_isInOrder_w ho s0 a0) x hx _ _ ⟨rfl, rfl⟩
end
section
variable {l : Launch} {n0 S0 : Nat} {h : aH} {b0 : Nat} {f0 : Nat → Option Nat}
abbrev MX7_firstOfOrder : aM := (cX7_firstOfOrder, RX7, 4, (some .int), false)
def X7_firstOfOrder_x4 (l : Launch) (n0 S0 : Nat) (h : aH) (b0 : Nat) (f0 : Nat → Option Nat) (v1 : Int32) (s0 : RS) : Int32 → Option Value → aH → Prop := fun (x : Int32) r h' => aEv l 0 MX7_firstOfOrder n0 S0 34 [(2, .int x)] [] (xw [(7, b0, f0, s0)] h) r h'
def X7_firstOfOrder_b4 (v1 : Int32) (v2 : Int32) (v3 : Int32) (s0 : RS) : Option ((Int32 × Int32) ⊕ Int32) :=
  if v1 ≤ v3 then
    some (.inr v2)
  else
    if (s0.1 4) ≤ v3 then
      some (.inr v2)
    else
      g_in v3 16 (
      thn (v2 ||| ((1 : Int32) <<< ((s0.2.2.1 3 v3.toNatClampNeg) &&& 31))) fun x1 =>
      thn (v3 + 1) fun x2 =>
      some (.inl (x1, x2)))
theorem X7_firstOfOrder_b4_ok (ho : xok [(7, b0)] h.2.1) (v1 : Int32) (v2 : Int32) (v3 : Int32) (s0 : RS) : aS l 0 MX7_firstOfOrder n0 S0 (a_LΦ (X7_firstOfOrder_x4 l n0 S0 h b0 f0 v1 s0) l 0 MX7_firstOfOrder n0 S0 4 (fun (q : Int32 × Int32) => [(0, .ref b0), (1, .int v1), (2, .int q.1), (3, .int q.2)]) (fun _ => []) (fun (q : Int32 × Int32) => xw [(7, b0, f0, s0)] h)) 4 [(0, .ref b0), (1, .int v1), (2, .int v2), (3, .int v3)] [] (xw [(7, b0, f0, s0)] h) (X7_firstOfOrder_b4 v1 v2 v3 s0) := by
  unfold X7_firstOfOrder_b4
  refine s_iload_n (pc := 4) 3 dX7_firstOfOrder_4 rfl ?_
  refine s_iload_n (pc := 5) 1 dX7_firstOfOrder_5 rfl ?_
  refine s_icmp_ge (tgt := 34) (pc := 6) dX7_firstOfOrder_6 (by decide) (fun _ => ?_) (fun _ => ?_)
  · refine s_sub [2] rfl ?_
    exact s_ev (fun _ _ q => q)
  · refine s_iload_n (pc := 9) 3 dX7_firstOfOrder_9 rfl ?_
    refine s_aload_n (pc := 10) 0 dX7_firstOfOrder_10 rfl ?_
    refine xg_X7_29 0 ho rfl (pc := 11) dX7_firstOfOrder_11 rfl ?_
    refine s_icmp_ge (tgt := 34) (pc := 14) dX7_firstOfOrder_14 (by decide) (fun _ => ?_) (fun _ => ?_)
    · refine s_sub [2] rfl ?_
      exact s_ev (fun _ _ q => q)
    · refine s_iload_n (pc := 17) 2 dX7_firstOfOrder_17 rfl ?_
      refine s_iconst (v := 1) (pc := 18) dX7_firstOfOrder_18 (by decide) ?_
      refine s_aload_n (pc := 19) 0 dX7_firstOfOrder_19 rfl ?_
      refine xg_X7_26 0 ho rfl (pc := 20) dX7_firstOfOrder_20 rfl ?_
      refine s_iload_n (pc := 23) 3 dX7_firstOfOrder_23 rfl ?_
      refine xl_7_3 0 ho rfl (pc := 24) dX7_firstOfOrder_24 ?_
      refine s_ishl (pc := 25) dX7_firstOfOrder_25 ?_
      refine s_ior (pc := 26) dX7_firstOfOrder_26 ?_
      refine s_istore_nT (lv' := fun x1 => [(2, .int x1), (0, .ref b0), (1, .int v1), (3, .int v3)]) (pc := 27) dX7_firstOfOrder_27 (by decide) (fun _ => rfl) (fun x1 => ?_)
      refine s_iincT (pc := 28) 3 (lv' := fun x2 => [(3, .int x2), (2, .int x1), (0, .ref b0), (1, .int v1)]) dX7_firstOfOrder_28 rfl rfl (by decide) (fun _ => rfl) (fun x2 => ?_)
      refine s_goto (tgt := 4) (pc := 31) dX7_firstOfOrder_31 (by decide) ?_
      refine s_sub [2, 3, 1, 0] rfl ?_
      exact s_ev (fun _ _ q => q)
def pX7_firstOfOrder (s0 : RS) (a0 : Int32) : Option Int32 :=
  (a_loop (fun (q : Int32 × Int32) => X7_firstOfOrder_b4 a0 q.1 q.2 s0) FU ((0 : Int32), (0 : Int32))).bind fun (t3 : Int32) =>
    some t3
theorem pX7_firstOfOrder_w (ho : xok [(7, b0)] h.2.1) (s0 : RS) (a0 : Int32) : aS l 0 MX7_firstOfOrder n0 S0 (oΦ (fun (x : Int32) => ((some (.int x)), xw [(7, b0, f0, s0)] h))) 0 [(0, .ref b0), (1, .int a0)] [] (xw [(7, b0, f0, s0)] h) (pX7_firstOfOrder s0 a0) := by
  unfold pX7_firstOfOrder
  refine s_iconst (v := 0) (pc := 0) dX7_firstOfOrder_0 (by decide) ?_
  refine s_istore_n (lv' := [(2, .int 0), (0, .ref b0), (1, .int a0)]) (pc := 1) dX7_firstOfOrder_1 (by decide) rfl ?_
  refine s_iconst (v := 0) (pc := 2) dX7_firstOfOrder_2 (by decide) ?_
  refine s_istore_n (lv' := [(3, .int 0), (2, .int 0), (0, .ref b0), (1, .int a0)]) (pc := 3) dX7_firstOfOrder_3 (by decide) rfl ?_
  refine s_bind (Ψ := X7_firstOfOrder_x4 l n0 S0 h b0 f0 a0 s0) ?_ ?_
  · refine s_sub [2, 3, 1, 0] rfl ?_
    exact s_loop (lvf := fun (q : Int32 × Int32) => [(0, .ref b0), (1, .int a0), (2, .int q.1), (3, .int q.2)]) (stf := fun _ => []) (hf := fun (q : Int32 × Int32) => xw [(7, b0, f0, s0)] h) (fun q => X7_firstOfOrder_b4_ok ho a0 q.1 q.2 s0) FU ((0 : Int32), (0 : Int32))
  · intro t3 z r h' hz hr
    refine (?_ : aS l 0 MX7_firstOfOrder n0 S0 (oΦ (fun (x : Int32) => ((some (.int x)), xw [(7, b0, f0, s0)] h))) 34 [(2, .int t3)] [] (xw [(7, b0, f0, s0)] h) _) z hz r h' hr
    refine s_iload_n (pc := 34) 0 dX7_firstOfOrder_34 rfl ?_
    exact s_iret (pc := 35) dX7_firstOfOrder_35 rfl (fun _ _ q => q)
theorem pX7_firstOfOrder_ok (ho : xok [(7, b0)] h.2.1) (s0 : RS) (a0 : Int32) : ∀ x, pX7_firstOfOrder s0 a0 = some x → aMet l 0 yX7_firstOfOrder cX7_firstOfOrder 4 (some .int) [.ref b0, .int a0] (xw [(7, b0, f0, s0)] h) (some (.int x)) (xw [(7, b0, f0, s0)] h) := fun x hx => a_meth (ini := false) (y := yX7_firstOfOrder) (by decide +kernel) (fun q => by cases q) (fun _ => Nat.le_of_ble_eq_true rfl) (pX7_firstOfOrder_w ho s0 a0) x hx _ _ ⟨rfl, rfl⟩
end
section
variable {l : Launch} {n0 S0 : Nat} {h : aH} {b0 : Nat} {f0 : Nat → Option Nat}
abbrev MX7_placeInOrder : aM := (cX7_placeInOrder, RX7, 3, (some .int), false)
def X7_placeInOrder_x2 (l : Launch) (n0 S0 : Nat) (h : aH) (b0 : Nat) (f0 : Nat → Option Nat) (v1 : Int32) (s0 : RS) : (Int32 ⊕ Unit) → Option Value → aH → Prop := Sum.elim (fun (x : Int32) (r : Option Value) (h' : aH) => aEv l 0 MX7_placeInOrder n0 S0 20 [(2, .int x)] [] (xw [(7, b0, f0, s0)] h) r h') (fun (x : Unit) (r : Option Value) (h' : aH) => aEv l 0 MX7_placeInOrder n0 S0 28 [] [] (xw [(7, b0, f0, s0)] h) r h')
def X7_placeInOrder_b2 (v1 : Int32) (v2 : Int32) (s0 : RS) : Option (Int32 ⊕ (Int32 ⊕ Unit)) :=
  if (s0.1 4) ≤ v2 then
    some (.inr (.inr ()))
  else
    g_in v2 16 (
    if (s0.2.2.1 3 v2.toNatClampNeg) = v1 then
      some (.inr (.inl v2))
    else
      thn (v2 + 1) fun x1 =>
      some (.inl x1))
theorem X7_placeInOrder_b2_ok (ho : xok [(7, b0)] h.2.1) (v1 : Int32) (v2 : Int32) (s0 : RS) : aS l 0 MX7_placeInOrder n0 S0 (a_LΦ (X7_placeInOrder_x2 l n0 S0 h b0 f0 v1 s0) l 0 MX7_placeInOrder n0 S0 2 (fun (q : Int32) => [(0, .ref b0), (1, .int v1), (2, .int q)]) (fun _ => []) (fun (q : Int32) => xw [(7, b0, f0, s0)] h)) 2 [(0, .ref b0), (1, .int v1), (2, .int v2)] [] (xw [(7, b0, f0, s0)] h) (X7_placeInOrder_b2 v1 v2 s0) := by
  unfold X7_placeInOrder_b2
  refine s_iload_n (pc := 2) 2 dX7_placeInOrder_2 rfl ?_
  refine s_aload_n (pc := 3) 0 dX7_placeInOrder_3 rfl ?_
  refine xg_X7_29 0 ho rfl (pc := 4) dX7_placeInOrder_4 rfl ?_
  refine s_icmp_ge (tgt := 28) (pc := 7) dX7_placeInOrder_7 (by decide) (fun _ => ?_) (fun _ => ?_)
  · refine s_sub [] rfl ?_
    exact s_ev (fun _ _ q => q)
  · refine s_aload_n (pc := 10) 0 dX7_placeInOrder_10 rfl ?_
    refine xg_X7_26 0 ho rfl (pc := 11) dX7_placeInOrder_11 rfl ?_
    refine s_iload_n (pc := 14) 2 dX7_placeInOrder_14 rfl ?_
    refine xl_7_3 0 ho rfl (pc := 15) dX7_placeInOrder_15 ?_
    refine s_iload_n (pc := 16) 1 dX7_placeInOrder_16 rfl ?_
    refine s_icmp_ne (tgt := 22) (pc := 17) dX7_placeInOrder_17 (by decide) (fun _ => ?_) (fun _ => ?_)
    · refine s_sub [2] rfl ?_
      exact s_ev (fun _ _ q => q)
    · refine s_iincT (pc := 22) 2 (lv' := fun x1 => [(2, .int x1), (0, .ref b0), (1, .int v1)]) dX7_placeInOrder_22 rfl rfl (by decide) (fun _ => rfl) (fun x1 => ?_)
      refine s_goto (tgt := 2) (pc := 25) dX7_placeInOrder_25 (by decide) ?_
      refine s_sub [1, 2, 0] rfl ?_
      exact s_ev (fun _ _ q => q)
def pX7_placeInOrder (s0 : RS) (a0 : Int32) : Option Int32 :=
  (a_loop (fun (q : Int32) => X7_placeInOrder_b2 a0 q s0) FU (0 : Int32)).bind (Sum.elim (fun (t2 : Int32) =>
      some t2)
    (fun (t3 : Unit) =>
      some (-1 : Int32)))
theorem pX7_placeInOrder_w (ho : xok [(7, b0)] h.2.1) (s0 : RS) (a0 : Int32) : aS l 0 MX7_placeInOrder n0 S0 (oΦ (fun (x : Int32) => ((some (.int x)), xw [(7, b0, f0, s0)] h))) 0 [(0, .ref b0), (1, .int a0)] [] (xw [(7, b0, f0, s0)] h) (pX7_placeInOrder s0 a0) := by
  unfold pX7_placeInOrder
  refine s_iconst (v := 0) (pc := 0) dX7_placeInOrder_0 (by decide) ?_
  refine s_istore_n (lv' := [(2, .int 0), (0, .ref b0), (1, .int a0)]) (pc := 1) dX7_placeInOrder_1 (by decide) rfl ?_
  refine s_bind (Ψ := X7_placeInOrder_x2 l n0 S0 h b0 f0 a0 s0) ?_ ?_
  · refine s_sub [1, 2, 0] rfl ?_
    exact s_loop (lvf := fun (q : Int32) => [(0, .ref b0), (1, .int a0), (2, .int q)]) (stf := fun _ => []) (hf := fun (q : Int32) => xw [(7, b0, f0, s0)] h) (fun q => X7_placeInOrder_b2_ok ho a0 q s0) FU (0 : Int32)
  · intro x z r h' hz hr
    rcases x with t2 | t3
    · refine (?_ : aS l 0 MX7_placeInOrder n0 S0 (oΦ (fun (x : Int32) => ((some (.int x)), xw [(7, b0, f0, s0)] h))) 20 [(2, .int t2)] [] (xw [(7, b0, f0, s0)] h) _) z (show _ = some z from hz) r h' hr
      refine s_iload_n (pc := 20) 0 dX7_placeInOrder_20 rfl ?_
      exact s_iret (pc := 21) dX7_placeInOrder_21 rfl (fun _ _ q => q)
    · refine (?_ : aS l 0 MX7_placeInOrder n0 S0 (oΦ (fun (x : Int32) => ((some (.int x)), xw [(7, b0, f0, s0)] h))) 28 [] [] (xw [(7, b0, f0, s0)] h) _) z (show _ = some z from hz) r h' hr
      refine s_iconst (v := (-1)) (pc := 28) dX7_placeInOrder_28 (by decide) ?_
      exact s_iret (pc := 29) dX7_placeInOrder_29 rfl (fun _ _ q => q)
theorem pX7_placeInOrder_ok (ho : xok [(7, b0)] h.2.1) (s0 : RS) (a0 : Int32) : ∀ x, pX7_placeInOrder s0 a0 = some x → aMet l 0 yX7_placeInOrder cX7_placeInOrder 3 (some .int) [.ref b0, .int a0] (xw [(7, b0, f0, s0)] h) (some (.int x)) (xw [(7, b0, f0, s0)] h) := fun x hx => a_meth (ini := false) (y := yX7_placeInOrder) (by decide +kernel) (fun q => by cases q) (fun _ => Nat.le_of_ble_eq_true rfl) (pX7_placeInOrder_w ho s0 a0) x hx _ _ ⟨rfl, rfl⟩
end
section
variable {l : Launch} {n0 S0 : Nat} {h : aH} {b0 b1 : Nat} {f0 f1 : Nat → Option Nat}
abbrev MX7_maySwap : aM := (cX7_maySwap, RX7, 2, (some .boolean), false)
def pX7_maySwap (s0 : RS) (s1 : RS) (a0 : Int32) : Option Bool :=
  (pX7_isInOrder s0 a0).bind fun x1 =>
  if x1 = true then
    (pX7_isInOrder s0 (a0 + (1 : Int32))).bind fun x2 =>
    if x2 = true then
      g_in (a0 + (1 : Int32)) 16 (
      g_in (s0.2.2.1 3 (a0 + (1 : Int32)).toNatClampNeg) 16 (
      g_in a0 16 (
      (pX0_isIn (s1.2.2.1 9 (s0.2.2.1 3 (a0 + (1 : Int32)).toNatClampNeg).toNatClampNeg) (s0.2.2.1 3 a0.toNatClampNeg)).bind fun x3 =>
      if x3 = true then
        some false
      else
        some true)))
    else
      some false
  else
    some false
theorem pX7_maySwap_w (ho : xok [(7, b0), (0, b1)] h.2.1) (hq_0_0 : f0 0 = some b1) (s0 : RS) (s1 : RS) (a0 : Int32) : aS l 1 MX7_maySwap n0 S0 (oΦ (fun (x : Bool) => ((some (.int (b2i x))), xw [(7, b0, f0, s0), (0, b1, f1, s1)] h))) 0 [(0, .ref b0), (1, .int a0)] [] (xw [(7, b0, f0, s0), (0, b1, f1, s1)] h) (pX7_maySwap s0 s1 a0) := by
  unfold pX7_maySwap
  refine s_aload_n (pc := 0) 0 dX7_maySwap_0 rfl ?_
  refine s_iload_n (pc := 1) 1 dX7_maySwap_1 rfl ?_
  refine x_callV (M := MX7_maySwap) (L := [(7, b0, f0, s0), (0, b1, f1, s1)]) (h := h) (j := 0) (As := [.int a0]) (st := []) (A := fun (x : Bool) => some (.int (b2i x))) (Lc := [(7, b0, f0, s0)]) (Lr := fun (x : Bool) => [(7, b0, f0, s0)]) (L2 := fun (x : Bool) => [(7, b0, f0, s0), (0, b1, f1, s1)]) cv_X7_39 (by decide) (pc := 2) dX7_maySwap_2 ho rfl xc0_7 rfl rfl (Nat.le_of_ble_eq_true rfl) (xovs (L := [(7, b0, f0, s0), (0, b1, f1, s1)]) (h := h) [(0, (7, b0, f0, s0))] ho ⟨rfl, trivial⟩).1 (fun x => (xovs (L := [(7, b0, f0, s0), (0, b1, f1, s1)]) (h := h) [(0, (7, b0, f0, s0))] ho ⟨rfl, trivial⟩).1) (fun x hx => pX7_isInOrder_ok (h := xw [(7, b0, f0, s0), (0, b1, f1, s1)] h) (f0 := f0) (xok_sub ho [0] rfl (by decide)) s0 a0 x hx) rfl (fun x1 _ => ?_)
  refine s_if_eqB (tgt := 50) (pc := 5) dX7_maySwap_5 (by decide) (fun _ => ?_) (fun _ => ?_)
  · refine s_aload_n (pc := 8) 0 dX7_maySwap_8 rfl ?_
    refine s_iload_n (pc := 9) 1 dX7_maySwap_9 rfl ?_
    refine s_iconst (v := 1) (pc := 10) dX7_maySwap_10 (by decide) ?_
    refine s_iadd (pc := 11) dX7_maySwap_11 ?_
    refine x_callV (M := MX7_maySwap) (L := [(7, b0, f0, s0), (0, b1, f1, s1)]) (h := h) (j := 0) (As := [.int (a0 + (1 : Int32))]) (st := []) (A := fun (x : Bool) => some (.int (b2i x))) (Lc := [(7, b0, f0, s0)]) (Lr := fun (x : Bool) => [(7, b0, f0, s0)]) (L2 := fun (x : Bool) => [(7, b0, f0, s0), (0, b1, f1, s1)]) cv_X7_39 (by decide) (pc := 12) dX7_maySwap_12 ho rfl xc0_7 rfl rfl (Nat.le_of_ble_eq_true rfl) (xovs (L := [(7, b0, f0, s0), (0, b1, f1, s1)]) (h := h) [(0, (7, b0, f0, s0))] ho ⟨rfl, trivial⟩).1 (fun x => (xovs (L := [(7, b0, f0, s0), (0, b1, f1, s1)]) (h := h) [(0, (7, b0, f0, s0))] ho ⟨rfl, trivial⟩).1) (fun x hx => pX7_isInOrder_ok (h := xw [(7, b0, f0, s0), (0, b1, f1, s1)] h) (f0 := f0) (xok_sub ho [0] rfl (by decide)) s0 (a0 + (1 : Int32)) x hx) rfl (fun x2 _ => ?_)
    refine s_if_eqB (tgt := 50) (pc := 15) dX7_maySwap_15 (by decide) (fun _ => ?_) (fun _ => ?_)
    · refine s_aload_n (pc := 18) 0 dX7_maySwap_18 rfl ?_
      refine xg_X7_12 0 ho rfl (pc := 19) dX7_maySwap_19 rfl hq_0_0 ?_
      refine xg_X7_43 1 ho rfl (pc := 22) dX7_maySwap_22 rfl ?_
      refine s_aload_n (pc := 25) 0 dX7_maySwap_25 rfl ?_
      refine xg_X7_26 0 ho rfl (pc := 26) dX7_maySwap_26 rfl ?_
      refine s_iload_n (pc := 29) 1 dX7_maySwap_29 rfl ?_
      refine s_iconst (v := 1) (pc := 30) dX7_maySwap_30 (by decide) ?_
      refine s_iadd (pc := 31) dX7_maySwap_31 ?_
      refine xl_7_3 0 ho rfl (pc := 32) dX7_maySwap_32 ?_
      refine xl_0_9 1 ho rfl (pc := 33) dX7_maySwap_33 ?_
      refine s_aload_n (pc := 34) 0 dX7_maySwap_34 rfl ?_
      refine xg_X7_26 0 ho rfl (pc := 35) dX7_maySwap_35 rfl ?_
      refine s_iload_n (pc := 38) 1 dX7_maySwap_38 rfl ?_
      refine xl_7_3 0 ho rfl (pc := 39) dX7_maySwap_39 ?_
      refine s_callS (M := MX7_maySwap) (As := [.int (s1.2.2.1 9 (s0.2.2.1 3 (a0 + (1 : Int32)).toNatClampNeg).toNatClampNeg), .int (s0.2.2.1 3 a0.toNatClampNeg)]) (st := []) (Ψ := fun (x : Bool) => (some (.int (b2i x)), xw [(7, b0, f0, s0), (0, b1, f1, s1)] h)) cs_X7_46 (by decide) (pc := 40) dX7_maySwap_40 rfl (Nat.le_of_ble_eq_true rfl) (fun x hx => pX0_isIn_ok (s1.2.2.1 9 (s0.2.2.1 3 (a0 + (1 : Int32)).toNatClampNeg).toNatClampNeg) (s0.2.2.1 3 a0.toNatClampNeg) x hx) rfl (fun x3 _ => ?_)
      refine s_if_neB (tgt := 50) (pc := 43) dX7_maySwap_43 (by decide) (fun _ => ?_) (fun _ => ?_)
      · refine s_iconst (v := 0) (pc := 50) dX7_maySwap_50 (by decide) ?_
        exact s_zretB (b := false) (pc := 51) dX7_maySwap_51 rfl (fun _ _ q => q)
      · refine s_iconst (v := 1) (pc := 46) dX7_maySwap_46 (by decide) ?_
        refine s_goto (tgt := 51) (pc := 47) dX7_maySwap_47 (by decide) ?_
        exact s_zretB (b := true) (pc := 51) dX7_maySwap_51 rfl (fun _ _ q => q)
    · refine s_iconst (v := 0) (pc := 50) dX7_maySwap_50 (by decide) ?_
      exact s_zretB (b := false) (pc := 51) dX7_maySwap_51 rfl (fun _ _ q => q)
  · refine s_iconst (v := 0) (pc := 50) dX7_maySwap_50 (by decide) ?_
    exact s_zretB (b := false) (pc := 51) dX7_maySwap_51 rfl (fun _ _ q => q)
theorem pX7_maySwap_ok (ho : xok [(7, b0), (0, b1)] h.2.1) (hq_0_0 : f0 0 = some b1) (s0 : RS) (s1 : RS) (a0 : Int32) : ∀ x, pX7_maySwap s0 s1 a0 = some x → aMet l 1 yX7_maySwap cX7_maySwap 2 (some .boolean) [.ref b0, .int a0] (xw [(7, b0, f0, s0), (0, b1, f1, s1)] h) (some (.int (b2i x))) (xw [(7, b0, f0, s0), (0, b1, f1, s1)] h) := fun x hx => a_meth (ini := false) (y := yX7_maySwap) (by decide +kernel) (fun q => by cases q) (fun _ => Nat.le_of_ble_eq_true rfl) (pX7_maySwap_w ho hq_0_0 s0 s1 a0) x hx _ _ ⟨rfl, rfl⟩
end
section
variable {l : Launch} {n0 S0 : Nat} {h : aH} {b0 : Nat} {f0 : Nat → Option Nat}
abbrev MX7_exchange : aM := (cX7_exchange, RX7, 3, none, false)
def pX7_exchange (s0 : RS) (a0 : Int32) : Option RS :=
  (pX7_isInOrder s0 a0).bind fun x1 =>
  if x1 = true then
    (pX7_isInOrder s0 (a0 + (1 : Int32))).bind fun x2 =>
    if x2 = true then
      g_in a0 16 (
      thn (s0.2.2.1 3 a0.toNatClampNeg) fun x3 =>
      g_in (a0 + (1 : Int32)) 16 (
      g_in a0 16 (thn (uA s0 3 (upd (s0.2.2.1 3) a0.toNatClampNeg (s0.2.2.1 3 (a0 + (1 : Int32)).toNatClampNeg))) fun s_4 =>
      g_in (a0 + (1 : Int32)) 16 (thn (uA s_4 3 (upd (s_4.2.2.1 3) (a0 + (1 : Int32)).toNatClampNeg x3)) fun s_5 =>
      some s_5))))
    else
      some s0
  else
    some s0
theorem pX7_exchange_w (ho : xok [(7, b0)] h.2.1) (s0 : RS) (a0 : Int32) : aS l 1 MX7_exchange n0 S0 (oΦ (fun (x : RS) => (none, xw [(7, b0, f0, x)] h))) 0 [(0, .ref b0), (1, .int a0)] [] (xw [(7, b0, f0, s0)] h) (pX7_exchange s0 a0) := by
  unfold pX7_exchange
  refine s_aload_n (pc := 0) 0 dX7_exchange_0 rfl ?_
  refine s_iload_n (pc := 1) 1 dX7_exchange_1 rfl ?_
  refine x_callV (M := MX7_exchange) (L := [(7, b0, f0, s0)]) (h := h) (j := 0) (As := [.int a0]) (st := []) (A := fun (x : Bool) => some (.int (b2i x))) (Lc := [(7, b0, f0, s0)]) (Lr := fun (x : Bool) => [(7, b0, f0, s0)]) (L2 := fun (x : Bool) => [(7, b0, f0, s0)]) cv_X7_39 (by decide) (pc := 2) dX7_exchange_2 ho rfl xc0_7 rfl rfl (Nat.le_of_ble_eq_true rfl) (xovs (L := [(7, b0, f0, s0)]) (h := h) [(0, (7, b0, f0, s0))] ho ⟨rfl, trivial⟩).1 (fun x => (xovs (L := [(7, b0, f0, s0)]) (h := h) [(0, (7, b0, f0, s0))] ho ⟨rfl, trivial⟩).1) (fun x hx => pX7_isInOrder_ok (h := xw [(7, b0, f0, s0)] h) (f0 := f0) (xok_sub ho [0] rfl (by decide)) s0 a0 x hx) rfl (fun x1 _ => ?_)
  refine s_if_eqB (tgt := 48) (pc := 5) dX7_exchange_5 (by decide) (fun _ => ?_) (fun _ => ?_)
  · refine s_aload_n (pc := 8) 0 dX7_exchange_8 rfl ?_
    refine s_iload_n (pc := 9) 1 dX7_exchange_9 rfl ?_
    refine s_iconst (v := 1) (pc := 10) dX7_exchange_10 (by decide) ?_
    refine s_iadd (pc := 11) dX7_exchange_11 ?_
    refine x_callV (M := MX7_exchange) (L := [(7, b0, f0, s0)]) (h := h) (j := 0) (As := [.int (a0 + (1 : Int32))]) (st := []) (A := fun (x : Bool) => some (.int (b2i x))) (Lc := [(7, b0, f0, s0)]) (Lr := fun (x : Bool) => [(7, b0, f0, s0)]) (L2 := fun (x : Bool) => [(7, b0, f0, s0)]) cv_X7_39 (by decide) (pc := 12) dX7_exchange_12 ho rfl xc0_7 rfl rfl (Nat.le_of_ble_eq_true rfl) (xovs (L := [(7, b0, f0, s0)]) (h := h) [(0, (7, b0, f0, s0))] ho ⟨rfl, trivial⟩).1 (fun x => (xovs (L := [(7, b0, f0, s0)]) (h := h) [(0, (7, b0, f0, s0))] ho ⟨rfl, trivial⟩).1) (fun x hx => pX7_isInOrder_ok (h := xw [(7, b0, f0, s0)] h) (f0 := f0) (xok_sub ho [0] rfl (by decide)) s0 (a0 + (1 : Int32)) x hx) rfl (fun x2 _ => ?_)
    refine s_if_eqB (tgt := 48) (pc := 15) dX7_exchange_15 (by decide) (fun _ => ?_) (fun _ => ?_)
    · refine s_aload_n (pc := 18) 0 dX7_exchange_18 rfl ?_
      refine xg_X7_26 0 ho rfl (pc := 19) dX7_exchange_19 rfl ?_
      refine s_iload_n (pc := 22) 1 dX7_exchange_22 rfl ?_
      refine xl_7_3 0 ho rfl (pc := 23) dX7_exchange_23 ?_
      refine s_istore_nT (lv' := fun x3 => [(2, .int x3), (0, .ref b0), (1, .int a0)]) (pc := 24) dX7_exchange_24 (by decide) (fun _ => rfl) (fun x3 => ?_)
      refine s_aload_n (pc := 25) 1 dX7_exchange_25 rfl ?_
      refine xg_X7_26 0 ho rfl (pc := 26) dX7_exchange_26 rfl ?_
      refine s_iload_n (pc := 29) 2 dX7_exchange_29 rfl ?_
      refine s_aload_n (pc := 30) 1 dX7_exchange_30 rfl ?_
      refine xg_X7_26 0 ho rfl (pc := 31) dX7_exchange_31 rfl ?_
      refine s_iload_n (pc := 34) 2 dX7_exchange_34 rfl ?_
      refine s_iconst (v := 1) (pc := 35) dX7_exchange_35 (by decide) ?_
      refine s_iadd (pc := 36) dX7_exchange_36 ?_
      refine xl_7_3 0 ho rfl (pc := 37) dX7_exchange_37 ?_
      refine xs_7_3 (L' := fun s_4 => [(7, b0, f0, s_4)]) 0 ho rfl (fun _ => rfl) (pc := 38) dX7_exchange_38 (fun s_4 => ?_)
      refine s_aload_n (pc := 39) 1 dX7_exchange_39 rfl ?_
      refine xg_X7_26 0 ho rfl (pc := 40) dX7_exchange_40 rfl ?_
      refine s_iload_n (pc := 43) 2 dX7_exchange_43 rfl ?_
      refine s_iconst (v := 1) (pc := 44) dX7_exchange_44 (by decide) ?_
      refine s_iadd (pc := 45) dX7_exchange_45 ?_
      refine s_iload_n (pc := 46) 0 dX7_exchange_46 rfl ?_
      refine xs_7_3 (L' := fun s_5 => [(7, b0, f0, s_5)]) 0 ho rfl (fun _ => rfl) (pc := 47) dX7_exchange_47 (fun s_5 => ?_)
      exact s_vret (pc := 48) dX7_exchange_48 rfl (fun _ _ q => q)
    · exact s_vret (pc := 48) dX7_exchange_48 rfl (fun _ _ q => q)
  · exact s_vret (pc := 48) dX7_exchange_48 rfl (fun _ _ q => q)
theorem pX7_exchange_ok (ho : xok [(7, b0)] h.2.1) (s0 : RS) (a0 : Int32) : ∀ x, pX7_exchange s0 a0 = some x → aMet l 1 yX7_exchange cX7_exchange 3 none [.ref b0, .int a0] (xw [(7, b0, f0, s0)] h) none (xw [(7, b0, f0, x)] h) := fun x hx => a_meth (ini := false) (y := yX7_exchange) (by decide +kernel) (fun q => by cases q) (fun _ => Nat.le_of_ble_eq_true rfl) (pX7_exchange_w ho s0 a0) x hx _ _ ⟨rfl, rfl⟩
end
