section
variable {l : Launch} {n0 S0 : Nat} {h : aH} {b0 : Nat} {f0 : Nat → Option Nat}
abbrev MX7_countTurned : aM := (cX7_countTurned, RX7, 4, (some .int), false)
def X7_countTurned_x4 (l : Launch) (n0 S0 : Nat) (h : aH) (b0 : Nat) (f0 : Nat → Option Nat) (s0 : RS) : Int32 → Option Value → aH → Prop := fun (x : Int32) r h' => aEv l 0 MX7_countTurned n0 S0 49 [(1, .int x)] [] (xw [(7, b0, f0, s0)] h) r h'
def X7_countTurned_x14 (l : Launch) (n0 S0 : Nat) (h : aH) (b0 : Nat) (f0 : Nat → Option Nat) (v2 : Int32) (s0 : RS) : Int32 → Option Value → aH → Prop := fun (x : Int32) r h' => aEv l 0 MX7_countTurned n0 S0 43 [(0, .ref b0), (1, .int x), (2, .int v2)] [] (xw [(7, b0, f0, s0)] h) r h'
def X7_countTurned_j37 (v1 : Int32) (v2 : Int32) (v3 : Int32) (s0 : RS) : Option ((Int32 × Int32) ⊕ Int32) :=
  thn (v3 + 1) fun x1 =>
  some (.inl (v1, x1))
theorem X7_countTurned_j37_ok (ho : xok [(7, b0)] h.2.1) (v1 : Int32) (v2 : Int32) (v3 : Int32) (s0 : RS) : aS l 0 MX7_countTurned n0 S0 (a_LΦ (X7_countTurned_x14 l n0 S0 h b0 f0 v2 s0) l 0 MX7_countTurned n0 S0 14 (fun (q : Int32 × Int32) => [(0, .ref b0), (1, .int q.1), (2, .int v2), (3, .int q.2)]) (fun _ => []) (fun (q : Int32 × Int32) => xw [(7, b0, f0, s0)] h)) 37 [(0, .ref b0), (1, .int v1), (2, .int v2), (3, .int v3)] [] (xw [(7, b0, f0, s0)] h) (X7_countTurned_j37 v1 v2 v3 s0) := by
  unfold X7_countTurned_j37
  refine s_iincT (pc := 37) 3 (lv' := fun x1 => [(3, .int x1), (0, .ref b0), (1, .int v1), (2, .int v2)]) dX7_countTurned_37 rfl rfl (by decide) (fun _ => rfl) (fun x1 => ?_)
  refine s_goto (tgt := 14) (pc := 40) dX7_countTurned_40 (by decide) ?_
  refine s_sub [1, 2, 3, 0] rfl ?_
  exact s_ev (fun _ _ q => q)
def X7_countTurned_b14 (v2 : Int32) (v1 : Int32) (v3 : Int32) (s0 : RS) : Option ((Int32 × Int32) ⊕ Int32) :=
  if v2 ≤ v3 then
    some (.inr v1)
  else
    g_in v3 16 (
    g_in v2 16 (
    if (s0.2.2.1 3 v3.toNatClampNeg) ≤ (s0.2.2.1 3 v2.toNatClampNeg) then
      X7_countTurned_j37 v1 v2 v3 s0
    else
      thn (v1 + 1) fun x2 =>
      X7_countTurned_j37 x2 v2 v3 s0))
theorem X7_countTurned_b14_ok (ho : xok [(7, b0)] h.2.1) (v2 : Int32) (v1 : Int32) (v3 : Int32) (s0 : RS) : aS l 0 MX7_countTurned n0 S0 (a_LΦ (X7_countTurned_x14 l n0 S0 h b0 f0 v2 s0) l 0 MX7_countTurned n0 S0 14 (fun (q : Int32 × Int32) => [(0, .ref b0), (1, .int q.1), (2, .int v2), (3, .int q.2)]) (fun _ => []) (fun (q : Int32 × Int32) => xw [(7, b0, f0, s0)] h)) 14 [(0, .ref b0), (1, .int v1), (2, .int v2), (3, .int v3)] [] (xw [(7, b0, f0, s0)] h) (X7_countTurned_b14 v2 v1 v3 s0) := by
  unfold X7_countTurned_b14
  refine s_iload_n (pc := 14) 3 dX7_countTurned_14 rfl ?_
  refine s_iload_n (pc := 15) 2 dX7_countTurned_15 rfl ?_
  refine s_icmp_ge (tgt := 43) (pc := 16) dX7_countTurned_16 (by decide) (fun _ => ?_) (fun _ => ?_)
  · refine s_sub [0, 1, 2] rfl ?_
    exact s_ev (fun _ _ q => q)
  · refine s_aload_n (pc := 19) 0 dX7_countTurned_19 rfl ?_
    refine xg_X7_26 0 ho rfl (pc := 20) dX7_countTurned_20 rfl ?_
    refine s_iload_n (pc := 23) 3 dX7_countTurned_23 rfl ?_
    refine xl_7_3 0 ho rfl (pc := 24) dX7_countTurned_24 ?_
    refine s_aload_n (pc := 25) 0 dX7_countTurned_25 rfl ?_
    refine xg_X7_26 0 ho rfl (pc := 26) dX7_countTurned_26 rfl ?_
    refine s_iload_n (pc := 29) 2 dX7_countTurned_29 rfl ?_
    refine xl_7_3 0 ho rfl (pc := 30) dX7_countTurned_30 ?_
    refine s_icmp_le (tgt := 37) (pc := 31) dX7_countTurned_31 (by decide) (fun _ => ?_) (fun _ => ?_)
    · exact X7_countTurned_j37_ok ho v1 v2 v3 s0
    · refine s_iincT (pc := 34) 1 (lv' := fun x2 => [(1, .int x2), (0, .ref b0), (2, .int v2), (3, .int v3)]) dX7_countTurned_34 rfl rfl (by decide) (fun _ => rfl) (fun x2 => ?_)
      refine s_sub [1, 0, 2, 3] rfl ?_
      exact X7_countTurned_j37_ok ho x2 v2 v3 s0
def X7_countTurned_b4 (v1 : Int32) (v2 : Int32) (s0 : RS) : Option ((Int32 × Int32) ⊕ Int32) :=
  if (s0.1 4) ≤ v2 then
    some (.inr v1)
  else
    (a_loop (fun (q : Int32 × Int32) => X7_countTurned_b14 v2 q.1 q.2 s0) FU (v1, (0 : Int32))).bind fun (t3 : Int32) =>
      thn (v2 + 1) fun x4 =>
      some (.inl (t3, x4))
theorem X7_countTurned_b4_ok (ho : xok [(7, b0)] h.2.1) (v1 : Int32) (v2 : Int32) (s0 : RS) : aS l 0 MX7_countTurned n0 S0 (a_LΦ (X7_countTurned_x4 l n0 S0 h b0 f0 s0) l 0 MX7_countTurned n0 S0 4 (fun (q : Int32 × Int32) => [(0, .ref b0), (1, .int q.1), (2, .int q.2)]) (fun _ => []) (fun (q : Int32 × Int32) => xw [(7, b0, f0, s0)] h)) 4 [(0, .ref b0), (1, .int v1), (2, .int v2)] [] (xw [(7, b0, f0, s0)] h) (X7_countTurned_b4 v1 v2 s0) := by
  unfold X7_countTurned_b4
  refine s_iload_n (pc := 4) 2 dX7_countTurned_4 rfl ?_
  refine s_aload_n (pc := 5) 0 dX7_countTurned_5 rfl ?_
  refine xg_X7_29 0 ho rfl (pc := 6) dX7_countTurned_6 rfl ?_
  refine s_icmp_ge (tgt := 49) (pc := 9) dX7_countTurned_9 (by decide) (fun _ => ?_) (fun _ => ?_)
  · refine s_sub [1] rfl ?_
    exact s_ev (fun _ _ q => q)
  · refine s_iconst (v := 0) (pc := 12) dX7_countTurned_12 (by decide) ?_
    refine s_istore_n (lv' := [(3, .int 0), (0, .ref b0), (1, .int v1), (2, .int v2)]) (pc := 13) dX7_countTurned_13 (by decide) rfl ?_
    refine s_bind (Ψ := X7_countTurned_x14 l n0 S0 h b0 f0 v2 s0) ?_ ?_
    · refine s_sub [1, 2, 3, 0] rfl ?_
      exact s_loop (lvf := fun (q : Int32 × Int32) => [(0, .ref b0), (1, .int q.1), (2, .int v2), (3, .int q.2)]) (stf := fun _ => []) (hf := fun (q : Int32 × Int32) => xw [(7, b0, f0, s0)] h) (fun q => X7_countTurned_b14_ok ho v2 q.1 q.2 s0) FU (v1, (0 : Int32))
    · intro t3 z r h' hz hr
      refine (?_ : aS l 0 MX7_countTurned n0 S0 (a_LΦ (X7_countTurned_x4 l n0 S0 h b0 f0 s0) l 0 MX7_countTurned n0 S0 4 (fun (q : Int32 × Int32) => [(0, .ref b0), (1, .int q.1), (2, .int q.2)]) (fun _ => []) (fun (q : Int32 × Int32) => xw [(7, b0, f0, s0)] h)) 43 [(0, .ref b0), (1, .int t3), (2, .int v2)] [] (xw [(7, b0, f0, s0)] h) _) z hz r h' hr
      refine s_iincT (pc := 43) 2 (lv' := fun x4 => [(2, .int x4), (0, .ref b0), (1, .int t3)]) dX7_countTurned_43 rfl rfl (by decide) (fun _ => rfl) (fun x4 => ?_)
      refine s_goto (tgt := 4) (pc := 46) dX7_countTurned_46 (by decide) ?_
      refine s_sub [1, 2, 0] rfl ?_
      exact s_ev (fun _ _ q => q)
def pX7_countTurned (s0 : RS) : Option Int32 :=
  (a_loop (fun (q : Int32 × Int32) => X7_countTurned_b4 q.1 q.2 s0) FU ((0 : Int32), (0 : Int32))).bind fun (t5 : Int32) =>
    some t5
theorem pX7_countTurned_w (ho : xok [(7, b0)] h.2.1) (s0 : RS) : aS l 0 MX7_countTurned n0 S0 (oΦ (fun (x : Int32) => ((some (.int x)), xw [(7, b0, f0, s0)] h))) 0 [(0, .ref b0)] [] (xw [(7, b0, f0, s0)] h) (pX7_countTurned s0) := by
  unfold pX7_countTurned
  refine s_iconst (v := 0) (pc := 0) dX7_countTurned_0 (by decide) ?_
  refine s_istore_n (lv' := [(1, .int 0), (0, .ref b0)]) (pc := 1) dX7_countTurned_1 (by decide) rfl ?_
  refine s_iconst (v := 0) (pc := 2) dX7_countTurned_2 (by decide) ?_
  refine s_istore_n (lv' := [(2, .int 0), (1, .int 0), (0, .ref b0)]) (pc := 3) dX7_countTurned_3 (by decide) rfl ?_
  refine s_bind (Ψ := X7_countTurned_x4 l n0 S0 h b0 f0 s0) ?_ ?_
  · refine s_sub [2, 1, 0] rfl ?_
    exact s_loop (lvf := fun (q : Int32 × Int32) => [(0, .ref b0), (1, .int q.1), (2, .int q.2)]) (stf := fun _ => []) (hf := fun (q : Int32 × Int32) => xw [(7, b0, f0, s0)] h) (fun q => X7_countTurned_b4_ok ho q.1 q.2 s0) FU ((0 : Int32), (0 : Int32))
  · intro t5 z r h' hz hr
    refine (?_ : aS l 0 MX7_countTurned n0 S0 (oΦ (fun (x : Int32) => ((some (.int x)), xw [(7, b0, f0, s0)] h))) 49 [(1, .int t5)] [] (xw [(7, b0, f0, s0)] h) _) z hz r h' hr
    refine s_iload_n (pc := 49) 0 dX7_countTurned_49 rfl ?_
    exact s_iret (pc := 50) dX7_countTurned_50 rfl (fun _ _ q => q)
theorem pX7_countTurned_ok (ho : xok [(7, b0)] h.2.1) (s0 : RS) : ∀ x, pX7_countTurned s0 = some x → aMet l 0 yX7_countTurned cX7_countTurned 4 (some .int) [.ref b0] (xw [(7, b0, f0, s0)] h) (some (.int x)) (xw [(7, b0, f0, s0)] h) := fun x hx => a_meth (ini := false) (y := yX7_countTurned) (by decide +kernel) (fun q => by cases q) (fun _ => Nat.le_of_ble_eq_true rfl) (pX7_countTurned_w ho s0) x hx _ _ ⟨rfl, rfl⟩
end
section
variable {l : Launch} {n0 S0 : Nat} {h : aH}
abbrev MX8_withLetter : aM := (cX8_withLetter, RX8, 3, (some .long), false)
def pX8_withLetter (a0 : Int64) (a1 : Int32) : Option Int64 :=
  some ((a0 * (27 : Int64)) + ((a1 - (97 : Int32)) + (1 : Int32)).toInt64)
theorem pX8_withLetter_w (a0 : Int64) (a1 : Int32) : aS l 0 MX8_withLetter n0 S0 (oΦ (fun (x : Int64) => ((some (.long x)), h))) 0 [(0, .long a0), (2, .int a1)] [] (h) (pX8_withLetter a0 a1) := by
  unfold pX8_withLetter
  refine s_lload_n (pc := 0) 0 dX8_withLetter_0 rfl ?_
  refine s_ldc2 (v := 27) (pc := 1) dX8_withLetter_1 wk_X8_64 ?_
  refine s_lmul (pc := 4) dX8_withLetter_4 ?_
  refine s_iload_n (pc := 5) 1 dX8_withLetter_5 rfl ?_
  refine s_bipush (v := 97) (pc := 6) dX8_withLetter_6 (by decide) ?_
  refine s_isub (pc := 8) dX8_withLetter_8 ?_
  refine s_iconst (v := 1) (pc := 9) dX8_withLetter_9 (by decide) ?_
  refine s_iadd (pc := 10) dX8_withLetter_10 ?_
  refine s_i2l (pc := 11) dX8_withLetter_11 ?_
  refine s_ladd (pc := 12) dX8_withLetter_12 ?_
  exact s_lret (pc := 13) dX8_withLetter_13 rfl (fun _ _ q => q)
theorem pX8_withLetter_ok (a0 : Int64) (a1 : Int32) : ∀ x, pX8_withLetter a0 a1 = some x → aMet l 0 yX8_withLetter cX8_withLetter 3 (some .long) [.long a0, .int a1] (h) (some (.long x)) (h) := fun x hx => a_meth (ini := false) (y := yX8_withLetter) (by decide +kernel) (fun q => by cases q) (fun _ => Nat.le_of_ble_eq_true rfl) (pX8_withLetter_w a0 a1) x hx _ _ ⟨rfl, rfl⟩
end
section
variable {l : Launch} {n0 S0 : Nat} {h : aH} {b0 : Nat} {f0 : Nat → Option Nat}
abbrev MX8_hasRoom : aM := (cX8_hasRoom, RX8, 2, (some .boolean), false)
def pX8_hasRoom (s0 : RS) (a0 : Int32) : Option Bool :=
  if ((900 : Int32) - (s0.1 2)) < a0 then
    some false
  else
    some true
theorem pX8_hasRoom_w (ho : xok [(8, b0)] h.2.1) (s0 : RS) (a0 : Int32) : aS l 0 MX8_hasRoom n0 S0 (oΦ (fun (x : Bool) => ((some (.int (b2i x))), xw [(8, b0, f0, s0)] h))) 0 [(0, .ref b0), (1, .int a0)] [] (xw [(8, b0, f0, s0)] h) (pX8_hasRoom s0 a0) := by
  unfold pX8_hasRoom
  refine s_iload_n (pc := 0) 1 dX8_hasRoom_0 rfl ?_
  refine s_sipush (v := 900) (pc := 1) dX8_hasRoom_1 (by decide) ?_
  refine s_aload_n (pc := 4) 0 dX8_hasRoom_4 rfl ?_
  refine xg_X8_19 0 ho rfl (pc := 5) dX8_hasRoom_5 rfl ?_
  refine s_isub (pc := 8) dX8_hasRoom_8 ?_
  refine s_icmp_gt (tgt := 16) (pc := 9) dX8_hasRoom_9 (by decide) (fun _ => ?_) (fun _ => ?_)
  · refine s_iconst (v := 0) (pc := 16) dX8_hasRoom_16 (by decide) ?_
    exact s_zretB (b := false) (pc := 17) dX8_hasRoom_17 rfl (fun _ _ q => q)
  · refine s_iconst (v := 1) (pc := 12) dX8_hasRoom_12 (by decide) ?_
    refine s_goto (tgt := 17) (pc := 13) dX8_hasRoom_13 (by decide) ?_
    exact s_zretB (b := true) (pc := 17) dX8_hasRoom_17 rfl (fun _ _ q => q)
theorem pX8_hasRoom_ok (ho : xok [(8, b0)] h.2.1) (s0 : RS) (a0 : Int32) : ∀ x, pX8_hasRoom s0 a0 = some x → aMet l 0 yX8_hasRoom cX8_hasRoom 2 (some .boolean) [.ref b0, .int a0] (xw [(8, b0, f0, s0)] h) (some (.int (b2i x))) (xw [(8, b0, f0, s0)] h) := fun x hx => a_meth (ini := false) (y := yX8_hasRoom) (by decide +kernel) (fun q => by cases q) (fun _ => Nat.le_of_ble_eq_true rfl) (pX8_hasRoom_w ho s0 a0) x hx _ _ ⟨rfl, rfl⟩
end
section
variable {l : Launch} {n0 S0 : Nat} {h : aH} {b0 : Nat} {f0 : Nat → Option Nat}
abbrev MX8_addBytes : aM := (cX8_addBytes, RX8, 3, none, false)
def X8_addBytes_x3 (l : Launch) (n0 S0 : Nat) (h : aH) (b0 : Nat) (f0 : Nat → Option Nat) (v1 : Int32) : RS → Option Value → aH → Prop := fun (x : RS) r h' => aEv l 0 MX8_addBytes n0 S0 46 [] [] (xw [(8, b0, f0, x)] h) r h'
def X8_addBytes_b3 (v1 : Int32) (v2 : Int32) (s0 : RS) : Option ((Int32 × RS) ⊕ RS) :=
  if v2 < 0 then
    some (.inr s0)
  else
    if (900 : Int32) ≤ (s0.1 2) then
      some (.inr s0)
    else
      g_in (s0.1 2) 900 (thn (uA s0 0 (upd (s0.2.2.1 0) (s0.1 2).toNatClampNeg ((v1 >>> (v2 &&& 31)).toInt8.toInt32).toInt8.toInt32)) fun s_1 =>
      thn (uI s_1 2 ((s_1.1 2) + (1 : Int32))) fun s_2 =>
      thn (v2 + (-8)) fun x3 =>
      some (.inl (x3, s_2)))
theorem X8_addBytes_b3_ok (ho : xok [(8, b0)] h.2.1) (v1 : Int32) (v2 : Int32) (s0 : RS) : aS l 0 MX8_addBytes n0 S0 (a_LΦ (X8_addBytes_x3 l n0 S0 h b0 f0 v1) l 0 MX8_addBytes n0 S0 3 (fun (q : Int32 × RS) => [(0, .ref b0), (1, .int v1), (2, .int q.1)]) (fun _ => []) (fun (q : Int32 × RS) => xw [(8, b0, f0, q.2)] h)) 3 [(0, .ref b0), (1, .int v1), (2, .int v2)] [] (xw [(8, b0, f0, s0)] h) (X8_addBytes_b3 v1 v2 s0) := by
  unfold X8_addBytes_b3
  refine s_iload_n (pc := 3) 2 dX8_addBytes_3 rfl ?_
  refine s_if_lt (tgt := 46) (pc := 4) dX8_addBytes_4 (by decide) (fun _ => ?_) (fun _ => ?_)
  · refine s_sub [] rfl ?_
    exact s_ev (fun _ _ q => q)
  · refine s_aload_n (pc := 7) 0 dX8_addBytes_7 rfl ?_
    refine xg_X8_19 0 ho rfl (pc := 8) dX8_addBytes_8 rfl ?_
    refine s_sipush (v := 900) (pc := 11) dX8_addBytes_11 (by decide) ?_
    refine s_icmp_ge (tgt := 46) (pc := 14) dX8_addBytes_14 (by decide) (fun _ => ?_) (fun _ => ?_)
    · refine s_sub [] rfl ?_
      exact s_ev (fun _ _ q => q)
    · refine s_aload_n (pc := 17) 0 dX8_addBytes_17 rfl ?_
      refine xg_X8_9 0 ho rfl (pc := 18) dX8_addBytes_18 rfl ?_
      refine s_aload_n (pc := 21) 0 dX8_addBytes_21 rfl ?_
      refine xg_X8_19 0 ho rfl (pc := 22) dX8_addBytes_22 rfl ?_
      refine s_iload_n (pc := 25) 1 dX8_addBytes_25 rfl ?_
      refine s_iload_n (pc := 26) 2 dX8_addBytes_26 rfl ?_
      refine s_ishr (pc := 27) dX8_addBytes_27 ?_
      refine s_i2b (pc := 28) dX8_addBytes_28 ?_
      refine xs_8_0 (L' := fun s_1 => [(8, b0, f0, s_1)]) 0 ho rfl (fun _ => rfl) (pc := 29) dX8_addBytes_29 (fun s_1 => ?_)
      refine s_aload_n (pc := 30) 0 dX8_addBytes_30 rfl ?_
      refine s_dup (pc := 31) dX8_addBytes_31 rfl ?_
      refine xg_X8_19 0 ho rfl (pc := 32) dX8_addBytes_32 rfl ?_
      refine s_iconst (v := 1) (pc := 35) dX8_addBytes_35 (by decide) ?_
      refine s_iadd (pc := 36) dX8_addBytes_36 ?_
      refine xp_X8_19 (L' := fun s_2 => [(8, b0, f0, s_2)]) 0 ho rfl (fun _ => rfl) (pc := 37) dX8_addBytes_37 rfl (fun s_2 => ?_)
      refine s_iincT (pc := 40) 2 (lv' := fun x3 => [(2, .int x3), (0, .ref b0), (1, .int v1)]) dX8_addBytes_40 rfl rfl (by decide) (fun _ => rfl) (fun x3 => ?_)
      refine s_goto (tgt := 3) (pc := 43) dX8_addBytes_43 (by decide) ?_
      refine s_sub [1, 2, 0] rfl ?_
      exact s_ev (fun _ _ q => q)
def pX8_addBytes (s0 : RS) (a0 : Int32) : Option RS :=
  (a_loop (fun (q : Int32 × RS) => X8_addBytes_b3 a0 q.1 q.2) FU ((24 : Int32), s0)).bind fun (t4 : RS) =>
    some t4
theorem pX8_addBytes_w (ho : xok [(8, b0)] h.2.1) (s0 : RS) (a0 : Int32) : aS l 0 MX8_addBytes n0 S0 (oΦ (fun (x : RS) => (none, xw [(8, b0, f0, x)] h))) 0 [(0, .ref b0), (1, .int a0)] [] (xw [(8, b0, f0, s0)] h) (pX8_addBytes s0 a0) := by
  unfold pX8_addBytes
  refine s_bipush (v := 24) (pc := 0) dX8_addBytes_0 (by decide) ?_
  refine s_istore_n (lv' := [(2, .int 24), (0, .ref b0), (1, .int a0)]) (pc := 2) dX8_addBytes_2 (by decide) rfl ?_
  refine s_bind (Ψ := X8_addBytes_x3 l n0 S0 h b0 f0 a0) ?_ ?_
  · refine s_sub [1, 2, 0] rfl ?_
    exact s_loop (lvf := fun (q : Int32 × RS) => [(0, .ref b0), (1, .int a0), (2, .int q.1)]) (stf := fun _ => []) (hf := fun (q : Int32 × RS) => xw [(8, b0, f0, q.2)] h) (fun q => X8_addBytes_b3_ok ho a0 q.1 q.2) FU ((24 : Int32), s0)
  · intro t4 z r h' hz hr
    refine (?_ : aS l 0 MX8_addBytes n0 S0 (oΦ (fun (x : RS) => (none, xw [(8, b0, f0, x)] h))) 46 [] [] (xw [(8, b0, f0, t4)] h) _) z hz r h' hr
    exact s_vret (pc := 46) dX8_addBytes_46 rfl (fun _ _ q => q)
theorem pX8_addBytes_ok (ho : xok [(8, b0)] h.2.1) (s0 : RS) (a0 : Int32) : ∀ x, pX8_addBytes s0 a0 = some x → aMet l 0 yX8_addBytes cX8_addBytes 3 none [.ref b0, .int a0] (xw [(8, b0, f0, s0)] h) none (xw [(8, b0, f0, x)] h) := fun x hx => a_meth (ini := false) (y := yX8_addBytes) (by decide +kernel) (fun q => by cases q) (fun _ => Nat.le_of_ble_eq_true rfl) (pX8_addBytes_w ho s0 a0) x hx _ _ ⟨rfl, rfl⟩
end
section
variable {l : Launch} {n0 S0 : Nat} {h : aH}
abbrev MX8_isDigit : aM := (cX8_isDigit, RX8, 1, (some .boolean), false)
def pX8_isDigit (a0 : Int32) : Option Bool :=
  if a0 < (48 : Int32) then
    some false
  else
    if (57 : Int32) < a0 then
      some false
    else
      some true
theorem pX8_isDigit_w (a0 : Int32) : aS l 0 MX8_isDigit n0 S0 (oΦ (fun (x : Bool) => ((some (.int (b2i x))), h))) 0 [(0, .int a0)] [] (h) (pX8_isDigit a0) := by
  unfold pX8_isDigit
  refine s_iload_n (pc := 0) 0 dX8_isDigit_0 rfl ?_
  refine s_bipush (v := 48) (pc := 1) dX8_isDigit_1 (by decide) ?_
  refine s_icmp_lt (tgt := 16) (pc := 3) dX8_isDigit_3 (by decide) (fun _ => ?_) (fun _ => ?_)
  · refine s_iconst (v := 0) (pc := 16) dX8_isDigit_16 (by decide) ?_
    exact s_zretB (b := false) (pc := 17) dX8_isDigit_17 rfl (fun _ _ q => q)
  · refine s_iload_n (pc := 6) 0 dX8_isDigit_6 rfl ?_
    refine s_bipush (v := 57) (pc := 7) dX8_isDigit_7 (by decide) ?_
    refine s_icmp_gt (tgt := 16) (pc := 9) dX8_isDigit_9 (by decide) (fun _ => ?_) (fun _ => ?_)
    · refine s_iconst (v := 0) (pc := 16) dX8_isDigit_16 (by decide) ?_
      exact s_zretB (b := false) (pc := 17) dX8_isDigit_17 rfl (fun _ _ q => q)
    · refine s_iconst (v := 1) (pc := 12) dX8_isDigit_12 (by decide) ?_
      refine s_goto (tgt := 17) (pc := 13) dX8_isDigit_13 (by decide) ?_
      exact s_zretB (b := true) (pc := 17) dX8_isDigit_17 rfl (fun _ _ q => q)
theorem pX8_isDigit_ok (a0 : Int32) : ∀ x, pX8_isDigit a0 = some x → aMet l 0 yX8_isDigit cX8_isDigit 1 (some .boolean) [.int a0] (h) (some (.int (b2i x))) (h) := fun x hx => a_meth (ini := false) (y := yX8_isDigit) (by decide +kernel) (fun q => by cases q) (fun _ => Nat.le_of_ble_eq_true rfl) (pX8_isDigit_w a0) x hx _ _ ⟨rfl, rfl⟩
end
section
variable {l : Launch} {n0 S0 : Nat} {h : aH} {b0 : Nat} {f0 : Nat → Option Nat}
abbrev MX8_addNumber : aM := (cX8_addNumber, RX8, 5, (some .int), false)
def X8_addNumber_x4 (l : Launch) (n0 S0 : Nat) (h : aH) (b0 : Nat) (f0 : Nat → Option Nat) (v1 : Int32) (s0 : RS) : (Int32 × Int64) → Option Value → aH → Prop := fun (x : Int32 × Int64) r h' => aEv l 1 MX8_addNumber n0 S0 54 [(0, .ref b0), (1, .int v1), (2, .int x.1), (3, .long x.2)] [] (xw [(8, b0, f0, s0)] h) r h'
def X8_addNumber_j48 (v1 : Int32) (v2 : Int32) (v3 : Int64) (s0 : RS) : Option ((Int32 × Int64) ⊕ (Int32 × Int64)) :=
  thn (v2 + 1) fun x3 =>
  some (.inl (x3, v3))
theorem X8_addNumber_j48_ok (ho : xok [(8, b0)] h.2.1) (v1 : Int32) (v2 : Int32) (v3 : Int64) (s0 : RS) : aS l 1 MX8_addNumber n0 S0 (a_LΦ (X8_addNumber_x4 l n0 S0 h b0 f0 v1 s0) l 1 MX8_addNumber n0 S0 4 (fun (q : Int32 × Int64) => [(0, .ref b0), (1, .int v1), (2, .int q.1), (3, .long q.2)]) (fun _ => []) (fun (q : Int32 × Int64) => xw [(8, b0, f0, s0)] h)) 48 [(0, .ref b0), (1, .int v1), (2, .int v2), (3, .long v3)] [] (xw [(8, b0, f0, s0)] h) (X8_addNumber_j48 v1 v2 v3 s0) := by
  unfold X8_addNumber_j48
  refine s_iincT (pc := 48) 2 (lv' := fun x3 => [(2, .int x3), (0, .ref b0), (1, .int v1), (3, .long v3)]) dX8_addNumber_48 rfl rfl (by decide) (fun _ => rfl) (fun x3 => ?_)
  refine s_goto (tgt := 4) (pc := 51) dX8_addNumber_51 (by decide) ?_
  refine s_sub [1, 2, 0, 3] rfl ?_
  exact s_ev (fun _ _ q => q)
def X8_addNumber_b4 (v1 : Int32) (v2 : Int32) (v3 : Int64) (s0 : RS) : Option ((Int32 × Int64) ⊕ (Int32 × Int64)) :=
  if (s0.1 5) ≤ v2 then
    some (.inr (v2, v3))
  else
    g_in v2 900 (
    (pX8_isDigit (s0.2.2.1 0 v2.toNatClampNeg)).bind fun x2 =>
    if x2 = true then
      if (4 : Int32) ≤ (v2 - v1) then
        X8_addNumber_j48 v1 v2 v3 s0
      else
        g_in v2 900 (
        thn ((v3 * (10 : Int64)) + ((s0.2.2.1 0 v2.toNatClampNeg) - (48 : Int32)).toInt64) fun x4 =>
        X8_addNumber_j48 v1 v2 x4 s0)
    else
      some (.inr (v2, v3)))
theorem X8_addNumber_b4_ok (ho : xok [(8, b0)] h.2.1) (v1 : Int32) (v2 : Int32) (v3 : Int64) (s0 : RS) : aS l 1 MX8_addNumber n0 S0 (a_LΦ (X8_addNumber_x4 l n0 S0 h b0 f0 v1 s0) l 1 MX8_addNumber n0 S0 4 (fun (q : Int32 × Int64) => [(0, .ref b0), (1, .int v1), (2, .int q.1), (3, .long q.2)]) (fun _ => []) (fun (q : Int32 × Int64) => xw [(8, b0, f0, s0)] h)) 4 [(0, .ref b0), (1, .int v1), (2, .int v2), (3, .long v3)] [] (xw [(8, b0, f0, s0)] h) (X8_addNumber_b4 v1 v2 v3 s0) := by
  unfold X8_addNumber_b4
  refine s_iload_n (pc := 4) 2 dX8_addNumber_4 rfl ?_
  refine s_aload_n (pc := 5) 0 dX8_addNumber_5 rfl ?_
  refine xg_X8_29 0 ho rfl (pc := 6) dX8_addNumber_6 rfl ?_
  refine s_icmp_ge (tgt := 54) (pc := 9) dX8_addNumber_9 (by decide) (fun _ => ?_) (fun _ => ?_)
  · exact s_ev (fun _ _ q => q)
  · refine s_aload_n (pc := 12) 0 dX8_addNumber_12 rfl ?_
    refine xg_X8_9 0 ho rfl (pc := 13) dX8_addNumber_13 rfl ?_
    refine s_iload_n (pc := 16) 2 dX8_addNumber_16 rfl ?_
    refine xl_8_0 0 ho rfl (pc := 17) dX8_addNumber_17 ?_
    refine s_callS (M := MX8_addNumber) (As := [.int (s0.2.2.1 0 v2.toNatClampNeg)]) (st := []) (Ψ := fun (x : Bool) => (some (.int (b2i x)), xw [(8, b0, f0, s0)] h)) cs_X8_83 (by decide) (pc := 18) dX8_addNumber_18 rfl (Nat.le_of_ble_eq_true rfl) (fun x hx => pX8_isDigit_ok (s0.2.2.1 0 v2.toNatClampNeg) x hx) rfl (fun x2 _ => ?_)
    refine s_if_eqB (tgt := 54) (pc := 21) dX8_addNumber_21 (by decide) (fun _ => ?_) (fun _ => ?_)
    · refine s_iload_n (pc := 24) 2 dX8_addNumber_24 rfl ?_
      refine s_iload_n (pc := 25) 1 dX8_addNumber_25 rfl ?_
      refine s_isub (pc := 26) dX8_addNumber_26 ?_
      refine s_iconst (v := 4) (pc := 27) dX8_addNumber_27 (by decide) ?_
      refine s_icmp_ge (tgt := 48) (pc := 28) dX8_addNumber_28 (by decide) (fun _ => ?_) (fun _ => ?_)
      · exact X8_addNumber_j48_ok ho v1 v2 v3 s0
      · refine s_lload_n (pc := 31) 3 dX8_addNumber_31 rfl ?_
        refine s_ldc2 (v := 10) (pc := 32) dX8_addNumber_32 wk_X8_93 ?_
        refine s_lmul (pc := 35) dX8_addNumber_35 ?_
        refine s_aload_n (pc := 36) 0 dX8_addNumber_36 rfl ?_
        refine xg_X8_9 0 ho rfl (pc := 37) dX8_addNumber_37 rfl ?_
        refine s_iload_n (pc := 40) 2 dX8_addNumber_40 rfl ?_
        refine xl_8_0 0 ho rfl (pc := 41) dX8_addNumber_41 ?_
        refine s_bipush (v := 48) (pc := 42) dX8_addNumber_42 (by decide) ?_
        refine s_isub (pc := 44) dX8_addNumber_44 ?_
        refine s_i2l (pc := 45) dX8_addNumber_45 ?_
        refine s_ladd (pc := 46) dX8_addNumber_46 ?_
        refine s_lstore_nT (lv' := fun x4 => [(3, .long x4), (0, .ref b0), (1, .int v1), (2, .int v2)]) (pc := 47) dX8_addNumber_47 (by decide) (fun _ => rfl) (fun x4 => ?_)
        refine s_sub [1, 2, 3, 0] rfl ?_
        exact X8_addNumber_j48_ok ho v1 v2 x4 s0
    · exact s_ev (fun _ _ q => q)
def X8_addNumber_j86 (v2 : Int32) (k1 : Int32) (k2 : Int32) (s0 : RS) : Option (Int32 × RS) :=
  g_in k1 901 (thn (uA s0 6 (upd (s0.2.2.1 6) k1.toNatClampNeg k2)) fun s_7 =>
  some (v2, s_7))
theorem X8_addNumber_j86_ok (ho : xok [(8, b0)] h.2.1) (v2 : Int32) (k1 : Int32) (k2 : Int32) (s0 : RS) : aS l 1 MX8_addNumber n0 S0 (oΦ (fun (x : Int32 × RS) => ((some (.int x.1)), xw [(8, b0, f0, x.2)] h))) 86 [(2, .int v2)] [.int k2, .int k1, .ref (b0 + 3)] (xw [(8, b0, f0, s0)] h) (X8_addNumber_j86 v2 k1 k2 s0) := by
  unfold X8_addNumber_j86
  refine xs_8_6 (L' := fun s_7 => [(8, b0, f0, s_7)]) 0 ho rfl (fun _ => rfl) (pc := 86) dX8_addNumber_86 (fun s_7 => ?_)
  refine s_iload_n (pc := 87) 0 dX8_addNumber_87 rfl ?_
  exact s_iret (pc := 88) dX8_addNumber_88 rfl (fun _ _ q => q)
def X8_addNumber_j54 (v1 : Int32) (v2 : Int32) (v3 : Int64) (s0 : RS) : Option (Int32 × RS) :=
  g_in (s0.1 9) 901 (thn (uB s0 8 (vp_updL (s0.2.2.2 8) (s0.1 9).toNatClampNeg v3)) fun s_6 =>
  if (v2 - v1) ≤ (4 : Int32) then
    X8_addNumber_j86 v2 (s_6.1 9) (30 : Int32) s_6
  else
    X8_addNumber_j86 v2 (s_6.1 9) (32 : Int32) s_6)
theorem X8_addNumber_j54_ok (ho : xok [(8, b0)] h.2.1) (v1 : Int32) (v2 : Int32) (v3 : Int64) (s0 : RS) : aS l 1 MX8_addNumber n0 S0 (oΦ (fun (x : Int32 × RS) => ((some (.int x.1)), xw [(8, b0, f0, x.2)] h))) 54 [(0, .ref b0), (1, .int v1), (2, .int v2), (3, .long v3)] [] (xw [(8, b0, f0, s0)] h) (X8_addNumber_j54 v1 v2 v3 s0) := by
  unfold X8_addNumber_j54
  refine s_aload_n (pc := 54) 0 dX8_addNumber_54 rfl ?_
  refine xg_X8_39 0 ho rfl (pc := 55) dX8_addNumber_55 rfl ?_
  refine s_aload_n (pc := 58) 0 dX8_addNumber_58 rfl ?_
  refine xg_X8_42 0 ho rfl (pc := 59) dX8_addNumber_59 rfl ?_
  refine s_lload_n (pc := 62) 3 dX8_addNumber_62 rfl ?_
  refine xs_8_8 (L' := fun s_6 => [(8, b0, f0, s_6)]) 0 ho rfl (fun _ => rfl) (pc := 63) dX8_addNumber_63 (fun s_6 => ?_)
  refine s_aload_n (pc := 64) 0 dX8_addNumber_64 rfl ?_
  refine xg_X8_32 0 ho rfl (pc := 65) dX8_addNumber_65 rfl ?_
  refine s_aload_n (pc := 68) 0 dX8_addNumber_68 rfl ?_
  refine xg_X8_42 0 ho rfl (pc := 69) dX8_addNumber_69 rfl ?_
  refine s_iload_n (pc := 72) 2 dX8_addNumber_72 rfl ?_
  refine s_iload_n (pc := 73) 1 dX8_addNumber_73 rfl ?_
  refine s_isub (pc := 74) dX8_addNumber_74 ?_
  refine s_iconst (v := 4) (pc := 75) dX8_addNumber_75 (by decide) ?_
  refine s_icmp_le (tgt := 84) (pc := 76) dX8_addNumber_76 (by decide) (fun _ => ?_) (fun _ => ?_)
  · refine s_bipush (v := 30) (pc := 84) dX8_addNumber_84 (by decide) ?_
    refine s_sub [2] rfl ?_
    exact X8_addNumber_j86_ok ho v2 (s_6.1 9) (30 : Int32) s_6
  · refine s_bipush (v := 32) (pc := 79) dX8_addNumber_79 (by decide) ?_
    refine s_goto (tgt := 86) (pc := 81) dX8_addNumber_81 (by decide) ?_
    refine s_sub [2] rfl ?_
    exact X8_addNumber_j86_ok ho v2 (s_6.1 9) (32 : Int32) s_6
def pX8_addNumber (s0 : RS) (a0 : Int32) : Option (Int32 × RS) :=
  thn (0 : Int64) fun x1 =>
  (a_loop (fun (q : Int32 × Int64) => X8_addNumber_b4 a0 q.1 q.2 s0) FU (a0, x1)).bind fun (t5 : Int32 × Int64) =>
    X8_addNumber_j54 a0 t5.1 t5.2 s0
theorem pX8_addNumber_w (ho : xok [(8, b0)] h.2.1) (s0 : RS) (a0 : Int32) : aS l 1 MX8_addNumber n0 S0 (oΦ (fun (x : Int32 × RS) => ((some (.int x.1)), xw [(8, b0, f0, x.2)] h))) 0 [(0, .ref b0), (1, .int a0)] [] (xw [(8, b0, f0, s0)] h) (pX8_addNumber s0 a0) := by
  unfold pX8_addNumber
  refine s_iload_n (pc := 0) 1 dX8_addNumber_0 rfl ?_
  refine s_istore_n (lv' := [(2, .int a0), (0, .ref b0), (1, .int a0)]) (pc := 1) dX8_addNumber_1 (by decide) rfl ?_
  refine s_lconst (v := 0) (pc := 2) dX8_addNumber_2 (by decide) ?_
  refine s_lstore_nT (lv' := fun x1 => [(3, .long x1), (2, .int a0), (0, .ref b0), (1, .int a0)]) (pc := 3) dX8_addNumber_3 (by decide) (fun _ => rfl) (fun x1 => ?_)
  refine s_bind (Ψ := X8_addNumber_x4 l n0 S0 h b0 f0 a0 s0) ?_ ?_
  · refine s_sub [2, 3, 1, 0] rfl ?_
    exact s_loop (lvf := fun (q : Int32 × Int64) => [(0, .ref b0), (1, .int a0), (2, .int q.1), (3, .long q.2)]) (stf := fun _ => []) (hf := fun (q : Int32 × Int64) => xw [(8, b0, f0, s0)] h) (fun q => X8_addNumber_b4_ok ho a0 q.1 q.2 s0) FU (a0, x1)
  · intro t5 z r h' hz hr
    refine (?_ : aS l 1 MX8_addNumber n0 S0 (oΦ (fun (x : Int32 × RS) => ((some (.int x.1)), xw [(8, b0, f0, x.2)] h))) 54 [(0, .ref b0), (1, .int a0), (2, .int t5.1), (3, .long t5.2)] [] (xw [(8, b0, f0, s0)] h) _) z hz r h' hr
    exact X8_addNumber_j54_ok ho a0 t5.1 t5.2 s0
theorem pX8_addNumber_ok (ho : xok [(8, b0)] h.2.1) (s0 : RS) (a0 : Int32) : ∀ x, pX8_addNumber s0 a0 = some x → aMet l 1 yX8_addNumber cX8_addNumber 5 (some .int) [.ref b0, .int a0] (xw [(8, b0, f0, s0)] h) (some (.int x.1)) (xw [(8, b0, f0, x.2)] h) := fun x hx => a_meth (ini := false) (y := yX8_addNumber) (by decide +kernel) (fun q => by cases q) (fun _ => Nat.le_of_ble_eq_true rfl) (pX8_addNumber_w ho s0 a0) x hx _ _ ⟨rfl, rfl⟩
end
section
variable {l : Launch} {n0 S0 : Nat} {h : aH}
abbrev MX8_isLetter : aM := (cX8_isLetter, RX8, 1, (some .boolean), false)
def pX8_isLetter (a0 : Int32) : Option Bool :=
  if a0 < (97 : Int32) then
    some false
  else
    if (122 : Int32) < a0 then
      some false
    else
      some true
theorem pX8_isLetter_w (a0 : Int32) : aS l 0 MX8_isLetter n0 S0 (oΦ (fun (x : Bool) => ((some (.int (b2i x))), h))) 0 [(0, .int a0)] [] (h) (pX8_isLetter a0) := by
  unfold pX8_isLetter
  refine s_iload_n (pc := 0) 0 dX8_isLetter_0 rfl ?_
  refine s_bipush (v := 97) (pc := 1) dX8_isLetter_1 (by decide) ?_
  refine s_icmp_lt (tgt := 16) (pc := 3) dX8_isLetter_3 (by decide) (fun _ => ?_) (fun _ => ?_)
  · refine s_iconst (v := 0) (pc := 16) dX8_isLetter_16 (by decide) ?_
    exact s_zretB (b := false) (pc := 17) dX8_isLetter_17 rfl (fun _ _ q => q)
  · refine s_iload_n (pc := 6) 0 dX8_isLetter_6 rfl ?_
    refine s_bipush (v := 122) (pc := 7) dX8_isLetter_7 (by decide) ?_
    refine s_icmp_gt (tgt := 16) (pc := 9) dX8_isLetter_9 (by decide) (fun _ => ?_) (fun _ => ?_)
    · refine s_iconst (v := 0) (pc := 16) dX8_isLetter_16 (by decide) ?_
      exact s_zretB (b := false) (pc := 17) dX8_isLetter_17 rfl (fun _ _ q => q)
    · refine s_iconst (v := 1) (pc := 12) dX8_isLetter_12 (by decide) ?_
      refine s_goto (tgt := 17) (pc := 13) dX8_isLetter_13 (by decide) ?_
      exact s_zretB (b := true) (pc := 17) dX8_isLetter_17 rfl (fun _ _ q => q)
theorem pX8_isLetter_ok (a0 : Int32) : ∀ x, pX8_isLetter a0 = some x → aMet l 0 yX8_isLetter cX8_isLetter 1 (some .boolean) [.int a0] (h) (some (.int (b2i x))) (h) := fun x hx => a_meth (ini := false) (y := yX8_isLetter) (by decide +kernel) (fun q => by cases q) (fun _ => Nat.le_of_ble_eq_true rfl) (pX8_isLetter_w a0) x hx _ _ ⟨rfl, rfl⟩
end
section
variable {l : Launch} {n0 S0 : Nat} {h : aH} {b0 : Nat} {f0 : Nat → Option Nat}
abbrev MX8_kindOfWord : aM := (cX8_kindOfWord, RX8, 4, (some .int), false)
def X8_kindOfWord_x2 (l : Launch) (n0 S0 : Nat) (h : aH) (b0 : Nat) (f0 : Nat → Option Nat) (v1 : Int64) (s0 : RS) : (Int32 ⊕ Unit) → Option Value → aH → Prop := Sum.elim (fun (x : Int32) (r : Option Value) (h' : aH) => aEv l 0 MX8_kindOfWord n0 S0 19 [(3, .int x)] [] (xw [(8, b0, f0, s0)] h) r h') (fun (x : Unit) (r : Option Value) (h' : aH) => aEv l 0 MX8_kindOfWord n0 S0 27 [] [] (xw [(8, b0, f0, s0)] h) r h')
def X8_kindOfWord_b2 (v1 : Int64) (v3 : Int32) (s0 : RS) : Option (Int32 ⊕ (Int32 ⊕ Unit)) :=
  if (28 : Int32) ≤ v3 then
    some (.inr (.inr ()))
  else
    g_in v3 28 (
    if (s0.2.2.2 1 v3.toNatClampNeg) = v1 then
      some (.inr (.inl v3))
    else
      thn (v3 + 1) fun x1 =>
      some (.inl x1))
theorem X8_kindOfWord_b2_ok (ho : xok [(8, b0)] h.2.1) (v1 : Int64) (v3 : Int32) (s0 : RS) : aS l 0 MX8_kindOfWord n0 S0 (a_LΦ (X8_kindOfWord_x2 l n0 S0 h b0 f0 v1 s0) l 0 MX8_kindOfWord n0 S0 2 (fun (q : Int32) => [(0, .ref b0), (1, .long v1), (3, .int q)]) (fun _ => []) (fun (q : Int32) => xw [(8, b0, f0, s0)] h)) 2 [(0, .ref b0), (1, .long v1), (3, .int v3)] [] (xw [(8, b0, f0, s0)] h) (X8_kindOfWord_b2 v1 v3 s0) := by
  unfold X8_kindOfWord_b2
  refine s_iload_n (pc := 2) 2 dX8_kindOfWord_2 rfl ?_
  refine s_bipush (v := 28) (pc := 3) dX8_kindOfWord_3 (by decide) ?_
  refine s_icmp_ge (tgt := 27) (pc := 5) dX8_kindOfWord_5 (by decide) (fun _ => ?_) (fun _ => ?_)
  · refine s_sub [] rfl ?_
    exact s_ev (fun _ _ q => q)
  · refine s_aload_n (pc := 8) 0 dX8_kindOfWord_8 rfl ?_
    refine xg_X8_15 0 ho rfl (pc := 9) dX8_kindOfWord_9 rfl ?_
    refine s_iload_n (pc := 12) 2 dX8_kindOfWord_12 rfl ?_
    refine xl_8_1 0 ho rfl (pc := 13) dX8_kindOfWord_13 ?_
    refine s_lload_n (pc := 14) 1 dX8_kindOfWord_14 rfl ?_
    refine s_lcmp (pc := 15) dX8_kindOfWord_15 ?_
    refine s_ifL (lg_cmp_z _ _) (s_if_ne (tgt := 21) (pc := 16) dX8_kindOfWord_16 (by decide) (fun _ => ?_) (fun _ => ?_))
    · refine s_sub [2] rfl ?_
      exact s_ev (fun _ _ q => q)
    · refine s_iincT (pc := 21) 2 (lv' := fun x1 => [(3, .int x1), (0, .ref b0), (1, .long v1)]) dX8_kindOfWord_21 rfl rfl (by decide) (fun _ => rfl) (fun x1 => ?_)
      refine s_goto (tgt := 2) (pc := 24) dX8_kindOfWord_24 (by decide) ?_
      refine s_sub [1, 2, 0] rfl ?_
      exact s_ev (fun _ _ q => q)
def pX8_kindOfWord (s0 : RS) (a0 : Int64) : Option Int32 :=
  (a_loop (fun (q : Int32) => X8_kindOfWord_b2 a0 q s0) FU (0 : Int32)).bind (Sum.elim (fun (t2 : Int32) =>
      some t2)
    (fun (t3 : Unit) =>
      some (28 : Int32)))
theorem pX8_kindOfWord_w (ho : xok [(8, b0)] h.2.1) (s0 : RS) (a0 : Int64) : aS l 0 MX8_kindOfWord n0 S0 (oΦ (fun (x : Int32) => ((some (.int x)), xw [(8, b0, f0, s0)] h))) 0 [(0, .ref b0), (1, .long a0)] [] (xw [(8, b0, f0, s0)] h) (pX8_kindOfWord s0 a0) := by
  unfold pX8_kindOfWord
  refine s_iconst (v := 0) (pc := 0) dX8_kindOfWord_0 (by decide) ?_
  refine s_istore_n (lv' := [(3, .int 0), (0, .ref b0), (1, .long a0)]) (pc := 1) dX8_kindOfWord_1 (by decide) rfl ?_
  refine s_bind (Ψ := X8_kindOfWord_x2 l n0 S0 h b0 f0 a0 s0) ?_ ?_
  · refine s_sub [1, 2, 0] rfl ?_
    exact s_loop (lvf := fun (q : Int32) => [(0, .ref b0), (1, .long a0), (3, .int q)]) (stf := fun _ => []) (hf := fun (q : Int32) => xw [(8, b0, f0, s0)] h) (fun q => X8_kindOfWord_b2_ok ho a0 q s0) FU (0 : Int32)
  · intro x z r h' hz hr
    rcases x with t2 | t3
    · refine (?_ : aS l 0 MX8_kindOfWord n0 S0 (oΦ (fun (x : Int32) => ((some (.int x)), xw [(8, b0, f0, s0)] h))) 19 [(3, .int t2)] [] (xw [(8, b0, f0, s0)] h) _) z (show _ = some z from hz) r h' hr
      refine s_iload_n (pc := 19) 0 dX8_kindOfWord_19 rfl ?_
      exact s_iret (pc := 20) dX8_kindOfWord_20 rfl (fun _ _ q => q)
    · refine (?_ : aS l 0 MX8_kindOfWord n0 S0 (oΦ (fun (x : Int32) => ((some (.int x)), xw [(8, b0, f0, s0)] h))) 27 [] [] (xw [(8, b0, f0, s0)] h) _) z (show _ = some z from hz) r h' hr
      refine s_bipush (v := 28) (pc := 27) dX8_kindOfWord_27 (by decide) ?_
      exact s_iret (pc := 29) dX8_kindOfWord_29 rfl (fun _ _ q => q)
theorem pX8_kindOfWord_ok (ho : xok [(8, b0)] h.2.1) (s0 : RS) (a0 : Int64) : ∀ x, pX8_kindOfWord s0 a0 = some x → aMet l 0 yX8_kindOfWord cX8_kindOfWord 4 (some .int) [.ref b0, .long a0] (xw [(8, b0, f0, s0)] h) (some (.int x)) (xw [(8, b0, f0, s0)] h) := fun x hx => a_meth (ini := false) (y := yX8_kindOfWord) (by decide +kernel) (fun q => by cases q) (fun _ => Nat.le_of_ble_eq_true rfl) (pX8_kindOfWord_w ho s0 a0) x hx _ _ ⟨rfl, rfl⟩
end
section
variable {l : Launch} {n0 S0 : Nat} {h : aH} {b0 : Nat} {f0 : Nat → Option Nat}
abbrev MX8_addWord : aM := (cX8_addWord, RX8, 5, (some .int), false)
def X8_addWord_x4 (l : Launch) (n0 S0 : Nat) (h : aH) (b0 : Nat) (f0 : Nat → Option Nat) (v1 : Int32) (s0 : RS) : (Int32 × Int64) → Option Value → aH → Prop := fun (x : Int32 × Int64) r h' => aEv l 1 MX8_addWord n0 S0 49 [(0, .ref b0), (1, .int v1), (2, .int x.1), (3, .long x.2)] [] (xw [(8, b0, f0, s0)] h) r h'
def X8_addWord_j43 (v1 : Int32) (v2 : Int32) (v3 : Int64) (s0 : RS) : Option ((Int32 × Int64) ⊕ (Int32 × Int64)) :=
  thn (v2 + 1) fun x3 =>
  some (.inl (x3, v3))
theorem X8_addWord_j43_ok (ho : xok [(8, b0)] h.2.1) (v1 : Int32) (v2 : Int32) (v3 : Int64) (s0 : RS) : aS l 1 MX8_addWord n0 S0 (a_LΦ (X8_addWord_x4 l n0 S0 h b0 f0 v1 s0) l 1 MX8_addWord n0 S0 4 (fun (q : Int32 × Int64) => [(0, .ref b0), (1, .int v1), (2, .int q.1), (3, .long q.2)]) (fun _ => []) (fun (q : Int32 × Int64) => xw [(8, b0, f0, s0)] h)) 43 [(0, .ref b0), (1, .int v1), (2, .int v2), (3, .long v3)] [] (xw [(8, b0, f0, s0)] h) (X8_addWord_j43 v1 v2 v3 s0) := by
  unfold X8_addWord_j43
  refine s_iincT (pc := 43) 2 (lv' := fun x3 => [(2, .int x3), (0, .ref b0), (1, .int v1), (3, .long v3)]) dX8_addWord_43 rfl rfl (by decide) (fun _ => rfl) (fun x3 => ?_)
  refine s_goto (tgt := 4) (pc := 46) dX8_addWord_46 (by decide) ?_
  refine s_sub [1, 2, 0, 3] rfl ?_
  exact s_ev (fun _ _ q => q)
def X8_addWord_b4 (v1 : Int32) (v2 : Int32) (v3 : Int64) (s0 : RS) : Option ((Int32 × Int64) ⊕ (Int32 × Int64)) :=
  if (s0.1 5) ≤ v2 then
    some (.inr (v2, v3))
  else
    g_in v2 900 (
    (pX8_isLetter (s0.2.2.1 0 v2.toNatClampNeg)).bind fun x2 =>
    if x2 = true then
      if (8 : Int32) ≤ (v2 - v1) then
        X8_addWord_j43 v1 v2 v3 s0
      else
        g_in v2 900 (
        (pX8_withLetter v3 (s0.2.2.1 0 v2.toNatClampNeg)).bind fun x4 =>
        X8_addWord_j43 v1 v2 x4 s0)
    else
      some (.inr (v2, v3)))
theorem X8_addWord_b4_ok (ho : xok [(8, b0)] h.2.1) (v1 : Int32) (v2 : Int32) (v3 : Int64) (s0 : RS) : aS l 1 MX8_addWord n0 S0 (a_LΦ (X8_addWord_x4 l n0 S0 h b0 f0 v1 s0) l 1 MX8_addWord n0 S0 4 (fun (q : Int32 × Int64) => [(0, .ref b0), (1, .int v1), (2, .int q.1), (3, .long q.2)]) (fun _ => []) (fun (q : Int32 × Int64) => xw [(8, b0, f0, s0)] h)) 4 [(0, .ref b0), (1, .int v1), (2, .int v2), (3, .long v3)] [] (xw [(8, b0, f0, s0)] h) (X8_addWord_b4 v1 v2 v3 s0) := by
  unfold X8_addWord_b4
  refine s_iload_n (pc := 4) 2 dX8_addWord_4 rfl ?_
  refine s_aload_n (pc := 5) 0 dX8_addWord_5 rfl ?_
  refine xg_X8_29 0 ho rfl (pc := 6) dX8_addWord_6 rfl ?_
  refine s_icmp_ge (tgt := 49) (pc := 9) dX8_addWord_9 (by decide) (fun _ => ?_) (fun _ => ?_)
  · exact s_ev (fun _ _ q => q)
  · refine s_aload_n (pc := 12) 0 dX8_addWord_12 rfl ?_
    refine xg_X8_9 0 ho rfl (pc := 13) dX8_addWord_13 rfl ?_
    refine s_iload_n (pc := 16) 2 dX8_addWord_16 rfl ?_
    refine xl_8_0 0 ho rfl (pc := 17) dX8_addWord_17 ?_
    refine s_callS (M := MX8_addWord) (As := [.int (s0.2.2.1 0 v2.toNatClampNeg)]) (st := []) (Ψ := fun (x : Bool) => (some (.int (b2i x)), xw [(8, b0, f0, s0)] h)) cs_X8_76 (by decide) (pc := 18) dX8_addWord_18 rfl (Nat.le_of_ble_eq_true rfl) (fun x hx => pX8_isLetter_ok (s0.2.2.1 0 v2.toNatClampNeg) x hx) rfl (fun x2 _ => ?_)
    refine s_if_eqB (tgt := 49) (pc := 21) dX8_addWord_21 (by decide) (fun _ => ?_) (fun _ => ?_)
    · refine s_iload_n (pc := 24) 2 dX8_addWord_24 rfl ?_
      refine s_iload_n (pc := 25) 1 dX8_addWord_25 rfl ?_
      refine s_isub (pc := 26) dX8_addWord_26 ?_
      refine s_bipush (v := 8) (pc := 27) dX8_addWord_27 (by decide) ?_
      refine s_icmp_ge (tgt := 43) (pc := 29) dX8_addWord_29 (by decide) (fun _ => ?_) (fun _ => ?_)
      · exact X8_addWord_j43_ok ho v1 v2 v3 s0
      · refine s_lload_n (pc := 32) 3 dX8_addWord_32 rfl ?_
        refine s_aload_n (pc := 33) 0 dX8_addWord_33 rfl ?_
        refine xg_X8_9 0 ho rfl (pc := 34) dX8_addWord_34 rfl ?_
        refine s_iload_n (pc := 37) 2 dX8_addWord_37 rfl ?_
        refine xl_8_0 0 ho rfl (pc := 38) dX8_addWord_38 ?_
        refine s_callS (M := MX8_addWord) (As := [.long v3, .int (s0.2.2.1 0 v2.toNatClampNeg)]) (st := []) (Ψ := fun (x : Int64) => (some (.long x), xw [(8, b0, f0, s0)] h)) cs_X8_60 (by decide) (pc := 39) dX8_addWord_39 rfl (Nat.le_of_ble_eq_true rfl) (fun x hx => pX8_withLetter_ok v3 (s0.2.2.1 0 v2.toNatClampNeg) x hx) rfl (fun x4 _ => ?_)
        refine s_lstore_n (lv' := [(3, .long x4), (0, .ref b0), (1, .int v1), (2, .int v2)]) (pc := 42) dX8_addWord_42 (by decide) rfl ?_
        refine s_sub [1, 2, 3, 0] rfl ?_
        exact X8_addWord_j43_ok ho v1 v2 x4 s0
    · exact s_ev (fun _ _ q => q)
def X8_addWord_j85 (v2 : Int32) (k1 : Int32) (k2 : Int32) (s0 : RS) : Option (Int32 × RS) :=
  g_in k1 901 (thn (uA s0 6 (upd (s0.2.2.1 6) k1.toNatClampNeg k2)) fun s_8 =>
  some (v2, s_8))
theorem X8_addWord_j85_ok (ho : xok [(8, b0)] h.2.1) (v2 : Int32) (k1 : Int32) (k2 : Int32) (s0 : RS) : aS l 1 MX8_addWord n0 S0 (oΦ (fun (x : Int32 × RS) => ((some (.int x.1)), xw [(8, b0, f0, x.2)] h))) 85 [(2, .int v2)] [.int k2, .int k1, .ref (b0 + 3)] (xw [(8, b0, f0, s0)] h) (X8_addWord_j85 v2 k1 k2 s0) := by
  unfold X8_addWord_j85
  refine xs_8_6 (L' := fun s_8 => [(8, b0, f0, s_8)]) 0 ho rfl (fun _ => rfl) (pc := 85) dX8_addWord_85 (fun s_8 => ?_)
  refine s_iload_n (pc := 86) 0 dX8_addWord_86 rfl ?_
  exact s_iret (pc := 87) dX8_addWord_87 rfl (fun _ _ q => q)
def X8_addWord_j49 (v1 : Int32) (v2 : Int32) (v3 : Int64) (s0 : RS) : Option (Int32 × RS) :=
  g_in (s0.1 9) 901 (thn (uB s0 8 (vp_updL (s0.2.2.2 8) (s0.1 9).toNatClampNeg v3)) fun s_6 =>
  if (v2 - v1) ≤ (8 : Int32) then
    (pX8_kindOfWord s_6 v3).bind fun x7 =>
    X8_addWord_j85 v2 (s_6.1 9) x7 s_6
  else
    X8_addWord_j85 v2 (s_6.1 9) (29 : Int32) s_6)
theorem X8_addWord_j49_ok (ho : xok [(8, b0)] h.2.1) (v1 : Int32) (v2 : Int32) (v3 : Int64) (s0 : RS) : aS l 1 MX8_addWord n0 S0 (oΦ (fun (x : Int32 × RS) => ((some (.int x.1)), xw [(8, b0, f0, x.2)] h))) 49 [(0, .ref b0), (1, .int v1), (2, .int v2), (3, .long v3)] [] (xw [(8, b0, f0, s0)] h) (X8_addWord_j49 v1 v2 v3 s0) := by
  unfold X8_addWord_j49
  refine s_aload_n (pc := 49) 0 dX8_addWord_49 rfl ?_
  refine xg_X8_39 0 ho rfl (pc := 50) dX8_addWord_50 rfl ?_
  refine s_aload_n (pc := 53) 0 dX8_addWord_53 rfl ?_
  refine xg_X8_42 0 ho rfl (pc := 54) dX8_addWord_54 rfl ?_
  refine s_lload_n (pc := 57) 3 dX8_addWord_57 rfl ?_
  refine xs_8_8 (L' := fun s_6 => [(8, b0, f0, s_6)]) 0 ho rfl (fun _ => rfl) (pc := 58) dX8_addWord_58 (fun s_6 => ?_)
  refine s_aload_n (pc := 59) 0 dX8_addWord_59 rfl ?_
  refine xg_X8_32 0 ho rfl (pc := 60) dX8_addWord_60 rfl ?_
  refine s_aload_n (pc := 63) 0 dX8_addWord_63 rfl ?_
  refine xg_X8_42 0 ho rfl (pc := 64) dX8_addWord_64 rfl ?_
  refine s_iload_n (pc := 67) 2 dX8_addWord_67 rfl ?_
  refine s_iload_n (pc := 68) 1 dX8_addWord_68 rfl ?_
  refine s_isub (pc := 69) dX8_addWord_69 ?_
  refine s_bipush (v := 8) (pc := 70) dX8_addWord_70 (by decide) ?_
  refine s_icmp_le (tgt := 80) (pc := 72) dX8_addWord_72 (by decide) (fun _ => ?_) (fun _ => ?_)
  · refine s_aload_n (pc := 80) 0 dX8_addWord_80 rfl ?_
    refine s_lload_n (pc := 81) 3 dX8_addWord_81 rfl ?_
    refine x_callV (M := MX8_addWord) (L := [(8, b0, f0, s_6)]) (h := h) (j := 0) (As := [.long v3]) (st := [.int (s_6.1 9), .ref (b0 + 3)]) (A := fun (x : Int32) => some (.int x)) (Lc := [(8, b0, f0, s_6)]) (Lr := fun (x : Int32) => [(8, b0, f0, s_6)]) (L2 := fun (x : Int32) => [(8, b0, f0, s_6)]) cv_X8_89 (by decide) (pc := 82) dX8_addWord_82 ho rfl xc0_8 rfl rfl (Nat.le_of_ble_eq_true rfl) (xovs (L := [(8, b0, f0, s_6)]) (h := h) [(0, (8, b0, f0, s_6))] ho ⟨rfl, trivial⟩).1 (fun x => (xovs (L := [(8, b0, f0, s_6)]) (h := h) [(0, (8, b0, f0, s_6))] ho ⟨rfl, trivial⟩).1) (fun x hx => pX8_kindOfWord_ok (h := xw [(8, b0, f0, s_6)] h) (f0 := f0) (xok_sub ho [0] rfl (by decide)) s_6 v3 x hx) rfl (fun x7 _ => ?_)
    refine s_sub [2] rfl ?_
    exact X8_addWord_j85_ok ho v2 (s_6.1 9) x7 s_6
  · refine s_bipush (v := 29) (pc := 75) dX8_addWord_75 (by decide) ?_
    refine s_goto (tgt := 85) (pc := 77) dX8_addWord_77 (by decide) ?_
    refine s_sub [2] rfl ?_
    exact X8_addWord_j85_ok ho v2 (s_6.1 9) (29 : Int32) s_6
def pX8_addWord (s0 : RS) (a0 : Int32) : Option (Int32 × RS) :=
  thn (0 : Int64) fun x1 =>
  (a_loop (fun (q : Int32 × Int64) => X8_addWord_b4 a0 q.1 q.2 s0) FU (a0, x1)).bind fun (t5 : Int32 × Int64) =>
    X8_addWord_j49 a0 t5.1 t5.2 s0
theorem pX8_addWord_w (ho : xok [(8, b0)] h.2.1) (s0 : RS) (a0 : Int32) : aS l 1 MX8_addWord n0 S0 (oΦ (fun (x : Int32 × RS) => ((some (.int x.1)), xw [(8, b0, f0, x.2)] h))) 0 [(0, .ref b0), (1, .int a0)] [] (xw [(8, b0, f0, s0)] h) (pX8_addWord s0 a0) := by
  unfold pX8_addWord
  refine s_iload_n (pc := 0) 1 dX8_addWord_0 rfl ?_
  refine s_istore_n (lv' := [(2, .int a0), (0, .ref b0), (1, .int a0)]) (pc := 1) dX8_addWord_1 (by decide) rfl ?_
  refine s_lconst (v := 0) (pc := 2) dX8_addWord_2 (by decide) ?_
  refine s_lstore_nT (lv' := fun x1 => [(3, .long x1), (2, .int a0), (0, .ref b0), (1, .int a0)]) (pc := 3) dX8_addWord_3 (by decide) (fun _ => rfl) (fun x1 => ?_)
  refine s_bind (Ψ := X8_addWord_x4 l n0 S0 h b0 f0 a0 s0) ?_ ?_
  · refine s_sub [2, 3, 1, 0] rfl ?_
    exact s_loop (lvf := fun (q : Int32 × Int64) => [(0, .ref b0), (1, .int a0), (2, .int q.1), (3, .long q.2)]) (stf := fun _ => []) (hf := fun (q : Int32 × Int64) => xw [(8, b0, f0, s0)] h) (fun q => X8_addWord_b4_ok ho a0 q.1 q.2 s0) FU (a0, x1)
  · intro t5 z r h' hz hr
    refine (?_ : aS l 1 MX8_addWord n0 S0 (oΦ (fun (x : Int32 × RS) => ((some (.int x.1)), xw [(8, b0, f0, x.2)] h))) 49 [(0, .ref b0), (1, .int a0), (2, .int t5.1), (3, .long t5.2)] [] (xw [(8, b0, f0, s0)] h) _) z hz r h' hr
    exact X8_addWord_j49_ok ho a0 t5.1 t5.2 s0
theorem pX8_addWord_ok (ho : xok [(8, b0)] h.2.1) (s0 : RS) (a0 : Int32) : ∀ x, pX8_addWord s0 a0 = some x → aMet l 1 yX8_addWord cX8_addWord 5 (some .int) [.ref b0, .int a0] (xw [(8, b0, f0, s0)] h) (some (.int x.1)) (xw [(8, b0, f0, x.2)] h) := fun x hx => a_meth (ini := false) (y := yX8_addWord) (by decide +kernel) (fun q => by cases q) (fun _ => Nat.le_of_ble_eq_true rfl) (pX8_addWord_w ho s0 a0) x hx _ _ ⟨rfl, rfl⟩
end
section
variable {l : Launch} {n0 S0 : Nat} {h : aH} {b0 : Nat} {f0 : Nat → Option Nat}
abbrev MX8_addToken : aM := (cX8_addToken, RX8, 2, (some .int), false)
def X8_addToken_j72 (v1 : Int32) (k1 : Int32) (k2 : Int32) (s0 : RS) : Option (Int32 × RS) :=
  g_in k1 901 (thn (uA s0 6 (upd (s0.2.2.1 6) k1.toNatClampNeg k2)) fun s_4 =>
  some ((v1 + (1 : Int32)), s_4))
theorem X8_addToken_j72_ok (ho : xok [(8, b0)] h.2.1) (v1 : Int32) (k1 : Int32) (k2 : Int32) (s0 : RS) : aS l 2 MX8_addToken n0 S0 (oΦ (fun (x : Int32 × RS) => ((some (.int x.1)), xw [(8, b0, f0, x.2)] h))) 72 [(1, .int v1)] [.int k2, .int k1, .ref (b0 + 3)] (xw [(8, b0, f0, s0)] h) (X8_addToken_j72 v1 k1 k2 s0) := by
  unfold X8_addToken_j72
  refine xs_8_6 (L' := fun s_4 => [(8, b0, f0, s_4)]) 0 ho rfl (fun _ => rfl) (pc := 72) dX8_addToken_72 (fun s_4 => ?_)
  refine s_iload_n (pc := 73) 0 dX8_addToken_73 rfl ?_
  refine s_iconst (v := 1) (pc := 74) dX8_addToken_74 (by decide) ?_
  refine s_iadd (pc := 75) dX8_addToken_75 ?_
  exact s_iret (pc := 76) dX8_addToken_76 rfl (fun _ _ q => q)
def pX8_addToken (s0 : RS) (a0 : Int32) : Option (Int32 × RS) :=
  g_in (s0.1 9) 901 (thn (uA s0 7 (upd (s0.2.2.1 7) (s0.1 9).toNatClampNeg a0)) fun s_1 =>
  g_in a0 900 (
  (pX8_isLetter (s_1.2.2.1 0 a0.toNatClampNeg)).bind fun x2 =>
  if x2 = true then
    (pX8_addWord s_1 a0).bind fun x6 =>
    some (x6.1, x6.2)
  else
    g_in a0 900 (
    (pX8_isDigit (s_1.2.2.1 0 a0.toNatClampNeg)).bind fun x3 =>
    if x3 = true then
      (pX8_addNumber s_1 a0).bind fun x5 =>
      some (x5.1, x5.2)
    else
      g_in a0 900 (
      if (s_1.2.2.1 0 a0.toNatClampNeg) = (59 : Int32) then
        X8_addToken_j72 a0 (s_1.1 9) (31 : Int32) s_1
      else
        X8_addToken_j72 a0 (s_1.1 9) (32 : Int32) s_1))))
theorem pX8_addToken_w (ho : xok [(8, b0)] h.2.1) (s0 : RS) (a0 : Int32) : aS l 2 MX8_addToken n0 S0 (oΦ (fun (x : Int32 × RS) => ((some (.int x.1)), xw [(8, b0, f0, x.2)] h))) 0 [(0, .ref b0), (1, .int a0)] [] (xw [(8, b0, f0, s0)] h) (pX8_addToken s0 a0) := by
  unfold pX8_addToken
  refine s_aload_n (pc := 0) 0 dX8_addToken_0 rfl ?_
  refine xg_X8_36 0 ho rfl (pc := 1) dX8_addToken_1 rfl ?_
  refine s_aload_n (pc := 4) 0 dX8_addToken_4 rfl ?_
  refine xg_X8_42 0 ho rfl (pc := 5) dX8_addToken_5 rfl ?_
  refine s_iload_n (pc := 8) 1 dX8_addToken_8 rfl ?_
  refine xs_8_7 (L' := fun s_1 => [(8, b0, f0, s_1)]) 0 ho rfl (fun _ => rfl) (pc := 9) dX8_addToken_9 (fun s_1 => ?_)
  refine s_aload_n (pc := 10) 0 dX8_addToken_10 rfl ?_
  refine xg_X8_9 0 ho rfl (pc := 11) dX8_addToken_11 rfl ?_
  refine s_iload_n (pc := 14) 1 dX8_addToken_14 rfl ?_
  refine xl_8_0 0 ho rfl (pc := 15) dX8_addToken_15 ?_
  refine s_callS (M := MX8_addToken) (As := [.int (s_1.2.2.1 0 a0.toNatClampNeg)]) (st := []) (Ψ := fun (x : Bool) => (some (.int (b2i x)), xw [(8, b0, f0, s_1)] h)) cs_X8_76 (by decide) (pc := 16) dX8_addToken_16 rfl (Nat.le_of_ble_eq_true rfl) (fun x hx => pX8_isLetter_ok (s_1.2.2.1 0 a0.toNatClampNeg) x hx) rfl (fun x2 _ => ?_)
  refine s_if_eqB (tgt := 28) (pc := 19) dX8_addToken_19 (by decide) (fun _ => ?_) (fun _ => ?_)
  · refine s_aload_n (pc := 22) 0 dX8_addToken_22 rfl ?_
    refine s_iload_n (pc := 23) 1 dX8_addToken_23 rfl ?_
    refine x_callV (M := MX8_addToken) (L := [(8, b0, f0, s_1)]) (h := h) (j := 0) (As := [.int a0]) (st := []) (A := fun (x : Int32 × RS) => some (.int x.1)) (Lc := [(8, b0, f0, s_1)]) (Lr := fun (x : Int32 × RS) => [(8, b0, f0, x.2)]) (L2 := fun (x : Int32 × RS) => [(8, b0, f0, x.2)]) cv_X8_80 (by decide) (pc := 24) dX8_addToken_24 ho rfl xc0_8 rfl rfl (Nat.le_of_ble_eq_true rfl) (xovs (L := [(8, b0, f0, s_1)]) (h := h) [(0, (8, b0, f0, s_1))] ho ⟨rfl, trivial⟩).1 (fun x => (xovs (L := [(8, b0, f0, s_1)]) (h := h) [(0, (8, b0, f0, x.2))] ho ⟨rfl, trivial⟩).1) (fun x hx => pX8_addWord_ok (h := xw [(8, b0, f0, s_1)] h) (f0 := f0) (xok_sub ho [0] rfl (by decide)) s_1 a0 x hx) rfl (fun x6 _ => ?_)
    exact s_iret (pc := 27) dX8_addToken_27 rfl (fun _ _ q => q)
  · refine s_aload_n (pc := 28) 0 dX8_addToken_28 rfl ?_
    refine xg_X8_9 0 ho rfl (pc := 29) dX8_addToken_29 rfl ?_
    refine s_iload_n (pc := 32) 1 dX8_addToken_32 rfl ?_
    refine xl_8_0 0 ho rfl (pc := 33) dX8_addToken_33 ?_
    refine s_callS (M := MX8_addToken) (As := [.int (s_1.2.2.1 0 a0.toNatClampNeg)]) (st := []) (Ψ := fun (x : Bool) => (some (.int (b2i x)), xw [(8, b0, f0, s_1)] h)) cs_X8_83 (by decide) (pc := 34) dX8_addToken_34 rfl (Nat.le_of_ble_eq_true rfl) (fun x hx => pX8_isDigit_ok (s_1.2.2.1 0 a0.toNatClampNeg) x hx) rfl (fun x3 _ => ?_)
    refine s_if_eqB (tgt := 46) (pc := 37) dX8_addToken_37 (by decide) (fun _ => ?_) (fun _ => ?_)
    · refine s_aload_n (pc := 40) 0 dX8_addToken_40 rfl ?_
      refine s_iload_n (pc := 41) 1 dX8_addToken_41 rfl ?_
      refine x_callV (M := MX8_addToken) (L := [(8, b0, f0, s_1)]) (h := h) (j := 0) (As := [.int a0]) (st := []) (A := fun (x : Int32 × RS) => some (.int x.1)) (Lc := [(8, b0, f0, s_1)]) (Lr := fun (x : Int32 × RS) => [(8, b0, f0, x.2)]) (L2 := fun (x : Int32 × RS) => [(8, b0, f0, x.2)]) cv_X8_86 (by decide) (pc := 42) dX8_addToken_42 ho rfl xc0_8 rfl rfl (Nat.le_of_ble_eq_true rfl) (xovs (L := [(8, b0, f0, s_1)]) (h := h) [(0, (8, b0, f0, s_1))] ho ⟨rfl, trivial⟩).1 (fun x => (xovs (L := [(8, b0, f0, s_1)]) (h := h) [(0, (8, b0, f0, x.2))] ho ⟨rfl, trivial⟩).1) (fun x hx => pX8_addNumber_ok (h := xw [(8, b0, f0, s_1)] h) (f0 := f0) (xok_sub ho [0] rfl (by decide)) s_1 a0 x hx) rfl (fun x5 _ => ?_)
      exact s_iret (pc := 45) dX8_addToken_45 rfl (fun _ _ q => q)
    · refine s_aload_n (pc := 46) 0 dX8_addToken_46 rfl ?_
      refine xg_X8_32 0 ho rfl (pc := 47) dX8_addToken_47 rfl ?_
      refine s_aload_n (pc := 50) 0 dX8_addToken_50 rfl ?_
      refine xg_X8_42 0 ho rfl (pc := 51) dX8_addToken_51 rfl ?_
      refine s_aload_n (pc := 54) 0 dX8_addToken_54 rfl ?_
      refine xg_X8_9 0 ho rfl (pc := 55) dX8_addToken_55 rfl ?_
      refine s_iload_n (pc := 58) 1 dX8_addToken_58 rfl ?_
      refine xl_8_0 0 ho rfl (pc := 59) dX8_addToken_59 ?_
      refine s_bipush (v := 59) (pc := 60) dX8_addToken_60 (by decide) ?_
      refine s_icmp_ne (tgt := 70) (pc := 62) dX8_addToken_62 (by decide) (fun _ => ?_) (fun _ => ?_)
      · refine s_bipush (v := 31) (pc := 65) dX8_addToken_65 (by decide) ?_
        refine s_goto (tgt := 72) (pc := 67) dX8_addToken_67 (by decide) ?_
        refine s_sub [1] rfl ?_
        exact X8_addToken_j72_ok ho a0 (s_1.1 9) (31 : Int32) s_1
      · refine s_bipush (v := 32) (pc := 70) dX8_addToken_70 (by decide) ?_
        refine s_sub [1] rfl ?_
        exact X8_addToken_j72_ok ho a0 (s_1.1 9) (32 : Int32) s_1
theorem pX8_addToken_ok (ho : xok [(8, b0)] h.2.1) (s0 : RS) (a0 : Int32) : ∀ x, pX8_addToken s0 a0 = some x → aMet l 2 yX8_addToken cX8_addToken 2 (some .int) [.ref b0, .int a0] (xw [(8, b0, f0, s0)] h) (some (.int x.1)) (xw [(8, b0, f0, x.2)] h) := fun x hx => a_meth (ini := false) (y := yX8_addToken) (by decide +kernel) (fun q => by cases q) (fun _ => Nat.le_of_ble_eq_true rfl) (pX8_addToken_w ho s0 a0) x hx _ _ ⟨rfl, rfl⟩
end
section
variable {l : Launch} {n0 S0 : Nat} {h : aH} {b0 : Nat} {f0 : Nat → Option Nat}
abbrev MX8_begin : aM := (cX8_begin, RX8, 3, none, false)
def X8_begin_x39 (l : Launch) (n0 S0 : Nat) (h : aH) (b0 : Nat) (f0 : Nat → Option Nat) : RS → Option Value → aH → Prop := fun (x : RS) r h' => aEv l 3 MX8_begin n0 S0 104 [(0, .ref b0)] [] (xw [(8, b0, f0, x)] h) r h'
def X8_begin_j79 (v2 : Int32) (s0 : RS) : Option ((Int32 × RS) ⊕ RS) :=
  thn (v2 + 1) fun x8 =>
  some (.inl (x8, s0))
theorem X8_begin_j79_ok (ho : xok [(8, b0)] h.2.1) (v2 : Int32) (s0 : RS) : aS l 3 MX8_begin n0 S0 (a_LΦ (X8_begin_x39 l n0 S0 h b0 f0) l 3 MX8_begin n0 S0 39 (fun (q : Int32 × RS) => [(0, .ref b0), (2, .int q.1)]) (fun _ => []) (fun (q : Int32 × RS) => xw [(8, b0, f0, q.2)] h)) 79 [(0, .ref b0), (2, .int v2)] [] (xw [(8, b0, f0, s0)] h) (X8_begin_j79 v2 s0) := by
  unfold X8_begin_j79
  refine s_iincT (pc := 79) 1 (lv' := fun x8 => [(2, .int x8), (0, .ref b0)]) dX8_begin_79 rfl rfl (by decide) (fun _ => rfl) (fun x8 => ?_)
  refine s_goto (tgt := 39) (pc := 82) dX8_begin_82 (by decide) ?_
  refine s_sub [1, 0] rfl ?_
  exact s_ev (fun _ _ q => q)
def X8_begin_b39 (v2 : Int32) (s0 : RS) : Option ((Int32 × RS) ⊕ RS) :=
  if (s0.1 5) ≤ v2 then
    some (.inr s0)
  else
    if (900 : Int32) ≤ (s0.1 9) then
      some (.inr s0)
    else
      g_in v2 900 (
      if (s0.2.2.1 0 v2.toNatClampNeg) = (10 : Int32) then
        X8_begin_j79 v2 s0
      else
        g_in v2 900 (
        if (s0.2.2.1 0 v2.toNatClampNeg) = (32 : Int32) then
          X8_begin_j79 v2 s0
        else
          (pX8_addToken s0 v2).bind fun x9 =>
          thn (uI x9.2 9 ((x9.2.1 9) + (1 : Int32))) fun s_10 =>
          some (.inl (x9.1, s_10))))
theorem X8_begin_b39_ok (ho : xok [(8, b0)] h.2.1) (v2 : Int32) (s0 : RS) : aS l 3 MX8_begin n0 S0 (a_LΦ (X8_begin_x39 l n0 S0 h b0 f0) l 3 MX8_begin n0 S0 39 (fun (q : Int32 × RS) => [(0, .ref b0), (2, .int q.1)]) (fun _ => []) (fun (q : Int32 × RS) => xw [(8, b0, f0, q.2)] h)) 39 [(0, .ref b0), (2, .int v2)] [] (xw [(8, b0, f0, s0)] h) (X8_begin_b39 v2 s0) := by
  unfold X8_begin_b39
  refine s_iload_n (pc := 39) 1 dX8_begin_39 rfl ?_
  refine s_aload_n (pc := 40) 0 dX8_begin_40 rfl ?_
  refine xg_X8_29 0 ho rfl (pc := 41) dX8_begin_41 rfl ?_
  refine s_icmp_ge (tgt := 104) (pc := 44) dX8_begin_44 (by decide) (fun _ => ?_) (fun _ => ?_)
  · refine s_sub [0] rfl ?_
    exact s_ev (fun _ _ q => q)
  · refine s_aload_n (pc := 47) 0 dX8_begin_47 rfl ?_
    refine xg_X8_42 0 ho rfl (pc := 48) dX8_begin_48 rfl ?_
    refine s_sipush (v := 900) (pc := 51) dX8_begin_51 (by decide) ?_
    refine s_icmp_ge (tgt := 104) (pc := 54) dX8_begin_54 (by decide) (fun _ => ?_) (fun _ => ?_)
    · refine s_sub [0] rfl ?_
      exact s_ev (fun _ _ q => q)
    · refine s_aload_n (pc := 57) 0 dX8_begin_57 rfl ?_
      refine xg_X8_9 0 ho rfl (pc := 58) dX8_begin_58 rfl ?_
      refine s_iload_n (pc := 61) 1 dX8_begin_61 rfl ?_
      refine xl_8_0 0 ho rfl (pc := 62) dX8_begin_62 ?_
      refine s_bipush (v := 10) (pc := 63) dX8_begin_63 (by decide) ?_
      refine s_icmp_eq (tgt := 79) (pc := 65) dX8_begin_65 (by decide) (fun _ => ?_) (fun _ => ?_)
      · exact X8_begin_j79_ok ho v2 s0
      · refine s_aload_n (pc := 68) 0 dX8_begin_68 rfl ?_
        refine xg_X8_9 0 ho rfl (pc := 69) dX8_begin_69 rfl ?_
        refine s_iload_n (pc := 72) 1 dX8_begin_72 rfl ?_
        refine xl_8_0 0 ho rfl (pc := 73) dX8_begin_73 ?_
        refine s_bipush (v := 32) (pc := 74) dX8_begin_74 (by decide) ?_
        refine s_icmp_ne (tgt := 85) (pc := 76) dX8_begin_76 (by decide) (fun _ => ?_) (fun _ => ?_)
        · exact X8_begin_j79_ok ho v2 s0
        · refine s_aload_n (pc := 85) 0 dX8_begin_85 rfl ?_
          refine s_iload_n (pc := 86) 1 dX8_begin_86 rfl ?_
          refine x_callV (M := MX8_begin) (L := [(8, b0, f0, s0)]) (h := h) (j := 0) (As := [.int v2]) (st := []) (A := fun (x : Int32 × RS) => some (.int x.1)) (Lc := [(8, b0, f0, s0)]) (Lr := fun (x : Int32 × RS) => [(8, b0, f0, x.2)]) (L2 := fun (x : Int32 × RS) => [(8, b0, f0, x.2)]) cv_X8_72 (by decide) (pc := 87) dX8_begin_87 ho rfl xc0_8 rfl rfl (Nat.le_of_ble_eq_true rfl) (xovs (L := [(8, b0, f0, s0)]) (h := h) [(0, (8, b0, f0, s0))] ho ⟨rfl, trivial⟩).1 (fun x => (xovs (L := [(8, b0, f0, s0)]) (h := h) [(0, (8, b0, f0, x.2))] ho ⟨rfl, trivial⟩).1) (fun x hx => pX8_addToken_ok (h := xw [(8, b0, f0, s0)] h) (f0 := f0) (xok_sub ho [0] rfl (by decide)) s0 v2 x hx) rfl (fun x9 _ => ?_)
          refine s_istore_n (lv' := [(2, .int x9.1), (0, .ref b0)]) (pc := 90) dX8_begin_90 (by decide) rfl ?_
          refine s_aload_n (pc := 91) 1 dX8_begin_91 rfl ?_
          refine s_dup (pc := 92) dX8_begin_92 rfl ?_
          refine xg_X8_42 0 ho rfl (pc := 93) dX8_begin_93 rfl ?_
          refine s_iconst (v := 1) (pc := 96) dX8_begin_96 (by decide) ?_
          refine s_iadd (pc := 97) dX8_begin_97 ?_
          refine xp_X8_42 (L' := fun s_10 => [(8, b0, f0, s_10)]) 0 ho rfl (fun _ => rfl) (pc := 98) dX8_begin_98 rfl (fun s_10 => ?_)
          refine s_goto (tgt := 39) (pc := 101) dX8_begin_101 (by decide) ?_
          refine s_sub [1, 0] rfl ?_
          exact s_ev (fun _ _ q => q)
def X8_begin_j104 (s0 : RS) : Option RS :=
  g_in (s0.1 9) 901 (thn (uA s0 6 (upd (s0.2.2.1 6) (s0.1 9).toNatClampNeg (33 : Int32))) fun s_12 =>
  g_in (s_12.1 9) 901 (thn (uA s_12 7 (upd (s_12.2.2.1 7) (s_12.1 9).toNatClampNeg (s_12.1 5))) fun s_13 =>
  some s_13))
theorem X8_begin_j104_ok (ho : xok [(8, b0)] h.2.1) (s0 : RS) : aS l 3 MX8_begin n0 S0 (oΦ (fun (x : RS) => (none, xw [(8, b0, f0, x)] h))) 104 [(0, .ref b0)] [] (xw [(8, b0, f0, s0)] h) (X8_begin_j104 s0) := by
  unfold X8_begin_j104
  refine s_aload_n (pc := 104) 0 dX8_begin_104 rfl ?_
  refine xg_X8_32 0 ho rfl (pc := 105) dX8_begin_105 rfl ?_
  refine s_aload_n (pc := 108) 0 dX8_begin_108 rfl ?_
  refine xg_X8_42 0 ho rfl (pc := 109) dX8_begin_109 rfl ?_
  refine s_bipush (v := 33) (pc := 112) dX8_begin_112 (by decide) ?_
  refine xs_8_6 (L' := fun s_12 => [(8, b0, f0, s_12)]) 0 ho rfl (fun _ => rfl) (pc := 114) dX8_begin_114 (fun s_12 => ?_)
  refine s_aload_n (pc := 115) 0 dX8_begin_115 rfl ?_
  refine xg_X8_36 0 ho rfl (pc := 116) dX8_begin_116 rfl ?_
  refine s_aload_n (pc := 119) 0 dX8_begin_119 rfl ?_
  refine xg_X8_42 0 ho rfl (pc := 120) dX8_begin_120 rfl ?_
  refine s_aload_n (pc := 123) 0 dX8_begin_123 rfl ?_
  refine xg_X8_29 0 ho rfl (pc := 124) dX8_begin_124 rfl ?_
  refine xs_8_7 (L' := fun s_13 => [(8, b0, f0, s_13)]) 0 ho rfl (fun _ => rfl) (pc := 127) dX8_begin_127 (fun s_13 => ?_)
  exact s_vret (pc := 128) dX8_begin_128 rfl (fun _ _ q => q)
def pX8_begin (s0 : RS) (a0 : Int32) : Option RS :=
  (pJ9_min_7cf53 a0 (s0.1 2)).bind fun x1 =>
  thn (uI s0 5 x1) fun s_2 =>
  thn (uI s_2 2 (0 : Int32)) fun s_3 =>
  thn (uI s_3 3 (0 : Int32)) fun s_4 =>
  thn (uI s_4 4 (-1 : Int32)) fun s_5 =>
  thn (uI s_5 9 (0 : Int32)) fun s_6 =>
  thn (uI s_6 10 (0 : Int32)) fun s_7 =>
  (a_loop (fun (q : Int32 × RS) => X8_begin_b39 q.1 q.2) FU ((0 : Int32), s_7)).bind fun (t11 : RS) =>
    X8_begin_j104 t11
theorem pX8_begin_w (ho : xok [(8, b0)] h.2.1) (s0 : RS) (a0 : Int32) : aS l 3 MX8_begin n0 S0 (oΦ (fun (x : RS) => (none, xw [(8, b0, f0, x)] h))) 0 [(0, .ref b0), (1, .int a0)] [] (xw [(8, b0, f0, s0)] h) (pX8_begin s0 a0) := by
  unfold pX8_begin
  refine s_aload_n (pc := 0) 0 dX8_begin_0 rfl ?_
  refine s_iload_n (pc := 1) 1 dX8_begin_1 rfl ?_
  refine s_aload_n (pc := 2) 0 dX8_begin_2 rfl ?_
  refine xg_X8_19 0 ho rfl (pc := 3) dX8_begin_3 rfl ?_
  refine s_callS (M := MX8_begin) (As := [.int a0, .int (s0.1 2)]) (st := [.ref b0]) (Ψ := fun (x : Int32) => (some (.int x), xw [(8, b0, f0, s0)] h)) cs_X8_66 (by decide) (pc := 6) dX8_begin_6 rfl (Nat.le_of_ble_eq_true rfl) (fun x hx => pJ9_min_7cf53_ok a0 (s0.1 2) x hx) rfl (fun x1 _ => ?_)
  refine xp_X8_29 (L' := fun s_2 => [(8, b0, f0, s_2)]) 0 ho rfl (fun _ => rfl) (pc := 9) dX8_begin_9 rfl (fun s_2 => ?_)
  refine s_aload_n (pc := 12) 0 dX8_begin_12 rfl ?_
  refine s_iconst (v := 0) (pc := 13) dX8_begin_13 (by decide) ?_
  refine xp_X8_19 (L' := fun s_3 => [(8, b0, f0, s_3)]) 0 ho rfl (fun _ => rfl) (pc := 14) dX8_begin_14 rfl (fun s_3 => ?_)
  refine s_aload_n (pc := 17) 0 dX8_begin_17 rfl ?_
  refine s_iconst (v := 0) (pc := 18) dX8_begin_18 (by decide) ?_
  refine xp_X8_23 (L' := fun s_4 => [(8, b0, f0, s_4)]) 0 ho rfl (fun _ => rfl) (pc := 19) dX8_begin_19 rfl (fun s_4 => ?_)
  refine s_aload_n (pc := 22) 0 dX8_begin_22 rfl ?_
  refine s_iconst (v := (-1)) (pc := 23) dX8_begin_23 (by decide) ?_
  refine xp_X8_26 (L' := fun s_5 => [(8, b0, f0, s_5)]) 0 ho rfl (fun _ => rfl) (pc := 24) dX8_begin_24 rfl (fun s_5 => ?_)
  refine s_aload_n (pc := 27) 0 dX8_begin_27 rfl ?_
  refine s_iconst (v := 0) (pc := 28) dX8_begin_28 (by decide) ?_
  refine xp_X8_42 (L' := fun s_6 => [(8, b0, f0, s_6)]) 0 ho rfl (fun _ => rfl) (pc := 29) dX8_begin_29 rfl (fun s_6 => ?_)
  refine s_aload_n (pc := 32) 0 dX8_begin_32 rfl ?_
  refine s_iconst (v := 0) (pc := 33) dX8_begin_33 (by decide) ?_
  refine xp_X8_45 (L' := fun s_7 => [(8, b0, f0, s_7)]) 0 ho rfl (fun _ => rfl) (pc := 34) dX8_begin_34 rfl (fun s_7 => ?_)
  refine s_iconst (v := 0) (pc := 37) dX8_begin_37 (by decide) ?_
  refine s_istore_n (lv' := [(2, .int 0), (0, .ref b0), (1, .int a0)]) (pc := 38) dX8_begin_38 (by decide) rfl ?_
  refine s_bind (Ψ := X8_begin_x39 l n0 S0 h b0 f0) ?_ ?_
  · refine s_sub [1, 0] rfl ?_
    exact s_loop (lvf := fun (q : Int32 × RS) => [(0, .ref b0), (2, .int q.1)]) (stf := fun _ => []) (hf := fun (q : Int32 × RS) => xw [(8, b0, f0, q.2)] h) (fun q => X8_begin_b39_ok ho q.1 q.2) FU ((0 : Int32), s_7)
  · intro t11 z r h' hz hr
    refine (?_ : aS l 3 MX8_begin n0 S0 (oΦ (fun (x : RS) => (none, xw [(8, b0, f0, x)] h))) 104 [(0, .ref b0)] [] (xw [(8, b0, f0, t11)] h) _) z hz r h' hr
    exact X8_begin_j104_ok ho t11
theorem pX8_begin_ok (ho : xok [(8, b0)] h.2.1) (s0 : RS) (a0 : Int32) : ∀ x, pX8_begin s0 a0 = some x → aMet l 3 yX8_begin cX8_begin 3 none [.ref b0, .int a0] (xw [(8, b0, f0, s0)] h) none (xw [(8, b0, f0, x)] h) := fun x hx => a_meth (ini := false) (y := yX8_begin) (by decide +kernel) (fun q => by cases q) (fun _ => Nat.le_of_ble_eq_true rfl) (pX8_begin_w ho s0 a0) x hx _ _ ⟨rfl, rfl⟩
end
section
variable {l : Launch} {n0 S0 : Nat} {h : aH} {b0 : Nat} {f0 : Nat → Option Nat}
abbrev MX8_kindHere : aM := (cX8_kindHere, RX8, 1, (some .int), false)
def pX8_kindHere (s0 : RS) : Option Int32 :=
  g_in (s0.1 10) 901 (
  some (s0.2.2.1 6 (s0.1 10).toNatClampNeg))
theorem pX8_kindHere_w (ho : xok [(8, b0)] h.2.1) (s0 : RS) : aS l 0 MX8_kindHere n0 S0 (oΦ (fun (x : Int32) => ((some (.int x)), xw [(8, b0, f0, s0)] h))) 0 [(0, .ref b0)] [] (xw [(8, b0, f0, s0)] h) (pX8_kindHere s0) := by
  unfold pX8_kindHere
  refine s_aload_n (pc := 0) 0 dX8_kindHere_0 rfl ?_
  refine xg_X8_32 0 ho rfl (pc := 1) dX8_kindHere_1 rfl ?_
  refine s_aload_n (pc := 4) 0 dX8_kindHere_4 rfl ?_
  refine xg_X8_45 0 ho rfl (pc := 5) dX8_kindHere_5 rfl ?_
  refine xl_8_6 0 ho rfl (pc := 8) dX8_kindHere_8 ?_
  exact s_iret (pc := 9) dX8_kindHere_9 rfl (fun _ _ q => q)
theorem pX8_kindHere_ok (ho : xok [(8, b0)] h.2.1) (s0 : RS) : ∀ x, pX8_kindHere s0 = some x → aMet l 0 yX8_kindHere cX8_kindHere 1 (some .int) [.ref b0] (xw [(8, b0, f0, s0)] h) (some (.int x)) (xw [(8, b0, f0, s0)] h) := fun x hx => a_meth (ini := false) (y := yX8_kindHere) (by decide +kernel) (fun q => by cases q) (fun _ => Nat.le_of_ble_eq_true rfl) (pX8_kindHere_w ho s0) x hx _ _ ⟨rfl, rfl⟩
end
section
variable {l : Launch} {n0 S0 : Nat} {h : aH} {b0 : Nat} {f0 : Nat → Option Nat}
abbrev MX8_nameHere : aM := (cX8_nameHere, RX8, 1, (some .long), false)
def pX8_nameHere (s0 : RS) : Option Int64 :=
  g_in (s0.1 10) 901 (
  some (s0.2.2.2 8 (s0.1 10).toNatClampNeg))
theorem pX8_nameHere_w (ho : xok [(8, b0)] h.2.1) (s0 : RS) : aS l 0 MX8_nameHere n0 S0 (oΦ (fun (x : Int64) => ((some (.long x)), xw [(8, b0, f0, s0)] h))) 0 [(0, .ref b0)] [] (xw [(8, b0, f0, s0)] h) (pX8_nameHere s0) := by
  unfold pX8_nameHere
  refine s_aload_n (pc := 0) 0 dX8_nameHere_0 rfl ?_
  refine xg_X8_39 0 ho rfl (pc := 1) dX8_nameHere_1 rfl ?_
  refine s_aload_n (pc := 4) 0 dX8_nameHere_4 rfl ?_
  refine xg_X8_45 0 ho rfl (pc := 5) dX8_nameHere_5 rfl ?_
  refine xl_8_8 0 ho rfl (pc := 8) dX8_nameHere_8 ?_
  exact s_lret (pc := 9) dX8_nameHere_9 rfl (fun _ _ q => q)
theorem pX8_nameHere_ok (ho : xok [(8, b0)] h.2.1) (s0 : RS) : ∀ x, pX8_nameHere s0 = some x → aMet l 0 yX8_nameHere cX8_nameHere 1 (some .long) [.ref b0] (xw [(8, b0, f0, s0)] h) (some (.long x)) (xw [(8, b0, f0, s0)] h) := fun x hx => a_meth (ini := false) (y := yX8_nameHere) (by decide +kernel) (fun q => by cases q) (fun _ => Nat.le_of_ble_eq_true rfl) (pX8_nameHere_w ho s0) x hx _ _ ⟨rfl, rfl⟩
end
section
variable {l : Launch} {n0 S0 : Nat} {h : aH} {b0 : Nat} {f0 : Nat → Option Nat}
abbrev MX8_isName : aM := (cX8_isName, RX8, 1, (some .boolean), false)
def pX8_isName (s0 : RS) : Option Bool :=
  g_in (s0.1 10) 901 (
  if (s0.2.2.1 6 (s0.1 10).toNatClampNeg) = (28 : Int32) then
    some true
  else
    some false)
theorem pX8_isName_w (ho : xok [(8, b0)] h.2.1) (s0 : RS) : aS l 0 MX8_isName n0 S0 (oΦ (fun (x : Bool) => ((some (.int (b2i x))), xw [(8, b0, f0, s0)] h))) 0 [(0, .ref b0)] [] (xw [(8, b0, f0, s0)] h) (pX8_isName s0) := by
  unfold pX8_isName
  refine s_aload_n (pc := 0) 0 dX8_isName_0 rfl ?_
  refine xg_X8_32 0 ho rfl (pc := 1) dX8_isName_1 rfl ?_
  refine s_aload_n (pc := 4) 0 dX8_isName_4 rfl ?_
  refine xg_X8_45 0 ho rfl (pc := 5) dX8_isName_5 rfl ?_
  refine xl_8_6 0 ho rfl (pc := 8) dX8_isName_8 ?_
  refine s_bipush (v := 28) (pc := 9) dX8_isName_9 (by decide) ?_
  refine s_icmp_ne (tgt := 18) (pc := 11) dX8_isName_11 (by decide) (fun _ => ?_) (fun _ => ?_)
  · refine s_iconst (v := 1) (pc := 14) dX8_isName_14 (by decide) ?_
    refine s_goto (tgt := 19) (pc := 15) dX8_isName_15 (by decide) ?_
    exact s_zretB (b := true) (pc := 19) dX8_isName_19 rfl (fun _ _ q => q)
  · refine s_iconst (v := 0) (pc := 18) dX8_isName_18 (by decide) ?_
    exact s_zretB (b := false) (pc := 19) dX8_isName_19 rfl (fun _ _ q => q)
theorem pX8_isName_ok (ho : xok [(8, b0)] h.2.1) (s0 : RS) : ∀ x, pX8_isName s0 = some x → aMet l 0 yX8_isName cX8_isName 1 (some .boolean) [.ref b0] (xw [(8, b0, f0, s0)] h) (some (.int (b2i x))) (xw [(8, b0, f0, s0)] h) := fun x hx => a_meth (ini := false) (y := yX8_isName) (by decide +kernel) (fun q => by cases q) (fun _ => Nat.le_of_ble_eq_true rfl) (pX8_isName_w ho s0) x hx _ _ ⟨rfl, rfl⟩
end
section
variable {l : Launch} {n0 S0 : Nat} {h : aH} {b0 : Nat} {f0 : Nat → Option Nat}
abbrev MX8_isEnd : aM := (cX8_isEnd, RX8, 1, (some .boolean), false)
def pX8_isEnd (s0 : RS) : Option Bool :=
  if (s0.1 10) < (s0.1 9) then
    some false
  else
    some true
theorem pX8_isEnd_w (ho : xok [(8, b0)] h.2.1) (s0 : RS) : aS l 0 MX8_isEnd n0 S0 (oΦ (fun (x : Bool) => ((some (.int (b2i x))), xw [(8, b0, f0, s0)] h))) 0 [(0, .ref b0)] [] (xw [(8, b0, f0, s0)] h) (pX8_isEnd s0) := by
  unfold pX8_isEnd
  refine s_aload_n (pc := 0) 0 dX8_isEnd_0 rfl ?_
  refine xg_X8_45 0 ho rfl (pc := 1) dX8_isEnd_1 rfl ?_
  refine s_aload_n (pc := 4) 0 dX8_isEnd_4 rfl ?_
  refine xg_X8_42 0 ho rfl (pc := 5) dX8_isEnd_5 rfl ?_
  refine s_icmp_lt (tgt := 15) (pc := 8) dX8_isEnd_8 (by decide) (fun _ => ?_) (fun _ => ?_)
  · refine s_iconst (v := 0) (pc := 15) dX8_isEnd_15 (by decide) ?_
    exact s_zretB (b := false) (pc := 16) dX8_isEnd_16 rfl (fun _ _ q => q)
  · refine s_iconst (v := 1) (pc := 11) dX8_isEnd_11 (by decide) ?_
    refine s_goto (tgt := 16) (pc := 12) dX8_isEnd_12 (by decide) ?_
    exact s_zretB (b := true) (pc := 16) dX8_isEnd_16 rfl (fun _ _ q => q)
theorem pX8_isEnd_ok (ho : xok [(8, b0)] h.2.1) (s0 : RS) : ∀ x, pX8_isEnd s0 = some x → aMet l 0 yX8_isEnd cX8_isEnd 1 (some .boolean) [.ref b0] (xw [(8, b0, f0, s0)] h) (some (.int (b2i x))) (xw [(8, b0, f0, s0)] h) := fun x hx => a_meth (ini := false) (y := yX8_isEnd) (by decide +kernel) (fun q => by cases q) (fun _ => Nat.le_of_ble_eq_true rfl) (pX8_isEnd_w ho s0) x hx _ _ ⟨rfl, rfl⟩
end
section
variable {l : Launch} {n0 S0 : Nat} {h : aH} {b0 : Nat} {f0 : Nat → Option Nat}
abbrev MX8_advance : aM := (cX8_advance, RX8, 1, none, false)
def pX8_advance (s0 : RS) : Option RS :=
  if (s0.1 9) ≤ (s0.1 10) then
    some s0
  else
    thn (uI s0 10 ((s0.1 10) + (1 : Int32))) fun s_1 =>
    some s_1
theorem pX8_advance_w (ho : xok [(8, b0)] h.2.1) (s0 : RS) : aS l 0 MX8_advance n0 S0 (oΦ (fun (x : RS) => (none, xw [(8, b0, f0, x)] h))) 0 [(0, .ref b0)] [] (xw [(8, b0, f0, s0)] h) (pX8_advance s0) := by
  unfold pX8_advance
  refine s_aload_n (pc := 0) 0 dX8_advance_0 rfl ?_
  refine xg_X8_45 0 ho rfl (pc := 1) dX8_advance_1 rfl ?_
  refine s_aload_n (pc := 4) 0 dX8_advance_4 rfl ?_
  refine xg_X8_42 0 ho rfl (pc := 5) dX8_advance_5 rfl ?_
  refine s_icmp_ge (tgt := 21) (pc := 8) dX8_advance_8 (by decide) (fun _ => ?_) (fun _ => ?_)
  · exact s_vret (pc := 21) dX8_advance_21 rfl (fun _ _ q => q)
  · refine s_aload_n (pc := 11) 0 dX8_advance_11 rfl ?_
    refine s_dup (pc := 12) dX8_advance_12 rfl ?_
    refine xg_X8_45 0 ho rfl (pc := 13) dX8_advance_13 rfl ?_
    refine s_iconst (v := 1) (pc := 16) dX8_advance_16 (by decide) ?_
    refine s_iadd (pc := 17) dX8_advance_17 ?_
    refine xp_X8_45 (L' := fun s_1 => [(8, b0, f0, s_1)]) 0 ho rfl (fun _ => rfl) (pc := 18) dX8_advance_18 rfl (fun s_1 => ?_)
    exact s_vret (pc := 21) dX8_advance_21 rfl (fun _ _ q => q)
theorem pX8_advance_ok (ho : xok [(8, b0)] h.2.1) (s0 : RS) : ∀ x, pX8_advance s0 = some x → aMet l 0 yX8_advance cX8_advance 1 none [.ref b0] (xw [(8, b0, f0, s0)] h) none (xw [(8, b0, f0, x)] h) := fun x hx => a_meth (ini := false) (y := yX8_advance) (by decide +kernel) (fun q => by cases q) (fun _ => Nat.le_of_ble_eq_true rfl) (pX8_advance_w ho s0) x hx _ _ ⟨rfl, rfl⟩
end
section
variable {l : Launch} {n0 S0 : Nat} {h : aH} {b0 : Nat} {f0 : Nat → Option Nat}
abbrev MX8_blame : aM := (cX8_blame, RX8, 2, (some .boolean), false)
def pX8_blame (s0 : RS) (a0 : Int32) : Option (Bool × RS) :=
  thn (uI s0 3 a0) fun s_1 =>
  g_in (s_1.1 10) 901 (
  thn (uI s_1 4 (s_1.2.2.1 7 (s_1.1 10).toNatClampNeg)) fun s_2 =>
  some (false, s_2))
theorem pX8_blame_w (ho : xok [(8, b0)] h.2.1) (s0 : RS) (a0 : Int32) : aS l 0 MX8_blame n0 S0 (oΦ (fun (x : Bool × RS) => ((some (.int (b2i x.1))), xw [(8, b0, f0, x.2)] h))) 0 [(0, .ref b0), (1, .int a0)] [] (xw [(8, b0, f0, s0)] h) (pX8_blame s0 a0) := by
  unfold pX8_blame
  refine s_aload_n (pc := 0) 0 dX8_blame_0 rfl ?_
  refine s_iload_n (pc := 1) 1 dX8_blame_1 rfl ?_
  refine xp_X8_23 (L' := fun s_1 => [(8, b0, f0, s_1)]) 0 ho rfl (fun _ => rfl) (pc := 2) dX8_blame_2 rfl (fun s_1 => ?_)
  refine s_aload_n (pc := 5) 0 dX8_blame_5 rfl ?_
  refine s_aload_n (pc := 6) 0 dX8_blame_6 rfl ?_
  refine xg_X8_36 0 ho rfl (pc := 7) dX8_blame_7 rfl ?_
  refine s_aload_n (pc := 10) 0 dX8_blame_10 rfl ?_
  refine xg_X8_45 0 ho rfl (pc := 11) dX8_blame_11 rfl ?_
  refine xl_8_7 0 ho rfl (pc := 14) dX8_blame_14 ?_
  refine xp_X8_26 (L' := fun s_2 => [(8, b0, f0, s_2)]) 0 ho rfl (fun _ => rfl) (pc := 15) dX8_blame_15 rfl (fun s_2 => ?_)
  refine s_iconst (v := 0) (pc := 18) dX8_blame_18 (by decide) ?_
  exact s_zretB (b := false) (pc := 19) dX8_blame_19 rfl (fun _ _ q => q)
theorem pX8_blame_ok (ho : xok [(8, b0)] h.2.1) (s0 : RS) (a0 : Int32) : ∀ x, pX8_blame s0 a0 = some x → aMet l 0 yX8_blame cX8_blame 2 (some .boolean) [.ref b0, .int a0] (xw [(8, b0, f0, s0)] h) (some (.int (b2i x.1))) (xw [(8, b0, f0, x.2)] h) := fun x hx => a_meth (ini := false) (y := yX8_blame) (by decide +kernel) (fun q => by cases q) (fun _ => Nat.le_of_ble_eq_true rfl) (pX8_blame_w ho s0 a0) x hx _ _ ⟨rfl, rfl⟩
end
section
variable {l : Launch} {n0 S0 : Nat} {h : aH} {b0 : Nat} {f0 : Nat → Option Nat}
abbrev MX8_blameToken : aM := (cX8_blameToken, RX8, 1, (some .boolean), false)
def X8_blameToken_j20 (k1 : Int32) (s0 : RS) : Option (Bool × RS) :=
  thn (uI s0 3 k1) fun s_1 =>
  g_in (s_1.1 10) 901 (
  thn (uI s_1 4 (s_1.2.2.1 7 (s_1.1 10).toNatClampNeg)) fun s_2 =>
  some (false, s_2))
theorem X8_blameToken_j20_ok (ho : xok [(8, b0)] h.2.1) (k1 : Int32) (s0 : RS) : aS l 0 MX8_blameToken n0 S0 (oΦ (fun (x : Bool × RS) => ((some (.int (b2i x.1))), xw [(8, b0, f0, x.2)] h))) 20 [(0, .ref b0)] [.int k1, .ref b0] (xw [(8, b0, f0, s0)] h) (X8_blameToken_j20 k1 s0) := by
  unfold X8_blameToken_j20
  refine xp_X8_23 (L' := fun s_1 => [(8, b0, f0, s_1)]) 0 ho rfl (fun _ => rfl) (pc := 20) dX8_blameToken_20 rfl (fun s_1 => ?_)
  refine s_aload_n (pc := 23) 0 dX8_blameToken_23 rfl ?_
  refine s_aload_n (pc := 24) 0 dX8_blameToken_24 rfl ?_
  refine xg_X8_36 0 ho rfl (pc := 25) dX8_blameToken_25 rfl ?_
  refine s_aload_n (pc := 28) 0 dX8_blameToken_28 rfl ?_
  refine xg_X8_45 0 ho rfl (pc := 29) dX8_blameToken_29 rfl ?_
  refine xl_8_7 0 ho rfl (pc := 32) dX8_blameToken_32 ?_
  refine xp_X8_26 (L' := fun s_2 => [(8, b0, f0, s_2)]) 0 ho rfl (fun _ => rfl) (pc := 33) dX8_blameToken_33 rfl (fun s_2 => ?_)
  refine s_iconst (v := 0) (pc := 36) dX8_blameToken_36 (by decide) ?_
  exact s_zretB (b := false) (pc := 37) dX8_blameToken_37 rfl (fun _ _ q => q)
def pX8_blameToken (s0 : RS) : Option (Bool × RS) :=
  g_in (s0.1 10) 901 (
  if (s0.2.2.1 6 (s0.1 10).toNatClampNeg) = (32 : Int32) then
    X8_blameToken_j20 (1 : Int32) s0
  else
    X8_blameToken_j20 (2 : Int32) s0)
theorem pX8_blameToken_w (ho : xok [(8, b0)] h.2.1) (s0 : RS) : aS l 0 MX8_blameToken n0 S0 (oΦ (fun (x : Bool × RS) => ((some (.int (b2i x.1))), xw [(8, b0, f0, x.2)] h))) 0 [(0, .ref b0)] [] (xw [(8, b0, f0, s0)] h) (pX8_blameToken s0) := by
  unfold pX8_blameToken
  refine s_aload_n (pc := 0) 0 dX8_blameToken_0 rfl ?_
  refine s_aload_n (pc := 1) 0 dX8_blameToken_1 rfl ?_
  refine xg_X8_32 0 ho rfl (pc := 2) dX8_blameToken_2 rfl ?_
  refine s_aload_n (pc := 5) 0 dX8_blameToken_5 rfl ?_
  refine xg_X8_45 0 ho rfl (pc := 6) dX8_blameToken_6 rfl ?_
  refine xl_8_6 0 ho rfl (pc := 9) dX8_blameToken_9 ?_
  refine s_bipush (v := 32) (pc := 10) dX8_blameToken_10 (by decide) ?_
  refine s_icmp_ne (tgt := 19) (pc := 12) dX8_blameToken_12 (by decide) (fun _ => ?_) (fun _ => ?_)
  · refine s_iconst (v := 1) (pc := 15) dX8_blameToken_15 (by decide) ?_
    refine s_goto (tgt := 20) (pc := 16) dX8_blameToken_16 (by decide) ?_
    exact X8_blameToken_j20_ok ho (1 : Int32) s0
  · refine s_iconst (v := 2) (pc := 19) dX8_blameToken_19 (by decide) ?_
    exact X8_blameToken_j20_ok ho (2 : Int32) s0
theorem pX8_blameToken_ok (ho : xok [(8, b0)] h.2.1) (s0 : RS) : ∀ x, pX8_blameToken s0 = some x → aMet l 0 yX8_blameToken cX8_blameToken 1 (some .boolean) [.ref b0] (xw [(8, b0, f0, s0)] h) (some (.int (b2i x.1))) (xw [(8, b0, f0, x.2)] h) := fun x hx => a_meth (ini := false) (y := yX8_blameToken) (by decide +kernel) (fun q => by cases q) (fun _ => Nat.le_of_ble_eq_true rfl) (pX8_blameToken_w ho s0) x hx _ _ ⟨rfl, rfl⟩
end
section
variable {l : Launch} {n0 S0 : Nat} {h : aH} {b0 : Nat} {f0 : Nat → Option Nat}
abbrev MX8_pass : aM := (cX8_pass, RX8, 2, (some .boolean), false)
def pX8_pass (s0 : RS) (a0 : Int32) : Option (Bool × RS) :=
  g_in (s0.1 10) 901 (
  if (s0.2.2.1 6 (s0.1 10).toNatClampNeg) = a0 then
    (pX8_advance s0).bind fun x1 =>
    some (true, x1)
  else
    (pX8_blameToken s0).bind fun x2 =>
    some (x2.1, x2.2))
theorem pX8_pass_w (ho : xok [(8, b0)] h.2.1) (s0 : RS) (a0 : Int32) : aS l 1 MX8_pass n0 S0 (oΦ (fun (x : Bool × RS) => ((some (.int (b2i x.1))), xw [(8, b0, f0, x.2)] h))) 0 [(0, .ref b0), (1, .int a0)] [] (xw [(8, b0, f0, s0)] h) (pX8_pass s0 a0) := by
  unfold pX8_pass
  refine s_aload_n (pc := 0) 0 dX8_pass_0 rfl ?_
  refine xg_X8_32 0 ho rfl (pc := 1) dX8_pass_1 rfl ?_
  refine s_aload_n (pc := 4) 0 dX8_pass_4 rfl ?_
  refine xg_X8_45 0 ho rfl (pc := 5) dX8_pass_5 rfl ?_
  refine xl_8_6 0 ho rfl (pc := 8) dX8_pass_8 ?_
  refine s_iload_n (pc := 9) 1 dX8_pass_9 rfl ?_
  refine s_icmp_eq (tgt := 18) (pc := 10) dX8_pass_10 (by decide) (fun _ => ?_) (fun _ => ?_)
  · refine s_aload_n (pc := 18) 0 dX8_pass_18 rfl ?_
    refine x_callV (M := MX8_pass) (L := [(8, b0, f0, s0)]) (h := h) (j := 0) (As := []) (st := []) (A := fun (x : RS) => none) (Lc := [(8, b0, f0, s0)]) (Lr := fun (x : RS) => [(8, b0, f0, x)]) (L2 := fun (x : RS) => [(8, b0, f0, x)]) cv_X8_99 (by decide) (pc := 19) dX8_pass_19 ho rfl xc0_8 rfl rfl (Nat.le_of_ble_eq_true rfl) (xovs (L := [(8, b0, f0, s0)]) (h := h) [(0, (8, b0, f0, s0))] ho ⟨rfl, trivial⟩).1 (fun x => (xovs (L := [(8, b0, f0, s0)]) (h := h) [(0, (8, b0, f0, x))] ho ⟨rfl, trivial⟩).1) (fun x hx => pX8_advance_ok (h := xw [(8, b0, f0, s0)] h) (f0 := f0) (xok_sub ho [0] rfl (by decide)) s0 x hx) rfl (fun x1 _ => ?_)
    refine s_iconst (v := 1) (pc := 22) dX8_pass_22 (by decide) ?_
    exact s_zretB (b := true) (pc := 23) dX8_pass_23 rfl (fun _ _ q => q)
  · refine s_aload_n (pc := 13) 0 dX8_pass_13 rfl ?_
    refine x_callV (M := MX8_pass) (L := [(8, b0, f0, s0)]) (h := h) (j := 0) (As := []) (st := []) (A := fun (x : Bool × RS) => some (.int (b2i x.1))) (Lc := [(8, b0, f0, s0)]) (Lr := fun (x : Bool × RS) => [(8, b0, f0, x.2)]) (L2 := fun (x : Bool × RS) => [(8, b0, f0, x.2)]) cv_X8_95 (by decide) (pc := 14) dX8_pass_14 ho rfl xc0_8 rfl rfl (Nat.le_of_ble_eq_true rfl) (xovs (L := [(8, b0, f0, s0)]) (h := h) [(0, (8, b0, f0, s0))] ho ⟨rfl, trivial⟩).1 (fun x => (xovs (L := [(8, b0, f0, s0)]) (h := h) [(0, (8, b0, f0, x.2))] ho ⟨rfl, trivial⟩).1) (fun x hx => pX8_blameToken_ok (h := xw [(8, b0, f0, s0)] h) (f0 := f0) (xok_sub ho [0] rfl (by decide)) s0 x hx) rfl (fun x2 _ => ?_)
    exact s_zretB (b := x2.1) (pc := 17) dX8_pass_17 rfl (fun _ _ q => q)
theorem pX8_pass_ok (ho : xok [(8, b0)] h.2.1) (s0 : RS) (a0 : Int32) : ∀ x, pX8_pass s0 a0 = some x → aMet l 1 yX8_pass cX8_pass 2 (some .boolean) [.ref b0, .int a0] (xw [(8, b0, f0, s0)] h) (some (.int (b2i x.1))) (xw [(8, b0, f0, x.2)] h) := fun x hx => a_meth (ini := false) (y := yX8_pass) (by decide +kernel) (fun q => by cases q) (fun _ => Nat.le_of_ble_eq_true rfl) (pX8_pass_w ho s0 a0) x hx _ _ ⟨rfl, rfl⟩
end
section
variable {l : Launch} {n0 S0 : Nat} {h : aH} {b0 : Nat} {f0 : Nat → Option Nat}
abbrev MX8_passNumber : aM := (cX8_passNumber, RX8, 4, (some .int), false)
def X8_passNumber_j42 (s0 : RS) : Option (Int32 × RS) :=
  (pX8_blame s0 (4 : Int32)).bind fun x2 =>
  some ((-1 : Int32), x2.2)
theorem X8_passNumber_j42_ok (ho : xok [(8, b0)] h.2.1) (s0 : RS) : aS l 1 MX8_passNumber n0 S0 (oΦ (fun (x : Int32 × RS) => ((some (.int x.1)), xw [(8, b0, f0, x.2)] h))) 42 [(0, .ref b0)] [] (xw [(8, b0, f0, s0)] h) (X8_passNumber_j42 s0) := by
  unfold X8_passNumber_j42
  refine s_aload_n (pc := 42) 0 dX8_passNumber_42 rfl ?_
  refine s_iconst (v := 4) (pc := 43) dX8_passNumber_43 (by decide) ?_
  refine x_callV (M := MX8_passNumber) (L := [(8, b0, f0, s0)]) (h := h) (j := 0) (As := [.int 4]) (st := []) (A := fun (x : Bool × RS) => some (.int (b2i x.1))) (Lc := [(8, b0, f0, s0)]) (Lr := fun (x : Bool × RS) => [(8, b0, f0, x.2)]) (L2 := fun (x : Bool × RS) => [(8, b0, f0, x.2)]) cv_X8_102 (by decide) (pc := 44) dX8_passNumber_44 ho rfl xc0_8 rfl rfl (Nat.le_of_ble_eq_true rfl) (xovs (L := [(8, b0, f0, s0)]) (h := h) [(0, (8, b0, f0, s0))] ho ⟨rfl, trivial⟩).1 (fun x => (xovs (L := [(8, b0, f0, s0)]) (h := h) [(0, (8, b0, f0, x.2))] ho ⟨rfl, trivial⟩).1) (fun x hx => pX8_blame_ok (h := xw [(8, b0, f0, s0)] h) (f0 := f0) (xok_sub ho [0] rfl (by decide)) s0 (4 : Int32) x hx) rfl (fun x2 _ => ?_)
  refine s_pop (pc := 47) dX8_passNumber_47 rfl ?_
  refine s_iconst (v := (-1)) (pc := 48) dX8_passNumber_48 (by decide) ?_
  exact s_iret (pc := 49) dX8_passNumber_49 rfl (fun _ _ q => q)
def pX8_passNumber (s0 : RS) (a0 : Int32) (a1 : Int32) : Option (Int32 × RS) :=
  g_in (s0.1 10) 901 (
  if (s0.2.2.1 6 (s0.1 10).toNatClampNeg) = (30 : Int32) then
    g_in (s0.1 10) 901 (
    thn ((s0.2.2.2 8 (s0.1 10).toNatClampNeg).toInt32) fun x1 =>
    if x1 < a0 then
      X8_passNumber_j42 s0
    else
      if x1 ≤ a1 then
        (pX8_advance s0).bind fun x3 =>
        some (x1, x3)
      else
        X8_passNumber_j42 s0)
  else
    (pX8_blameToken s0).bind fun x4 =>
    some ((-1 : Int32), x4.2))
theorem pX8_passNumber_w (ho : xok [(8, b0)] h.2.1) (s0 : RS) (a0 : Int32) (a1 : Int32) : aS l 1 MX8_passNumber n0 S0 (oΦ (fun (x : Int32 × RS) => ((some (.int x.1)), xw [(8, b0, f0, x.2)] h))) 0 [(0, .ref b0), (1, .int a0), (2, .int a1)] [] (xw [(8, b0, f0, s0)] h) (pX8_passNumber s0 a0 a1) := by
  unfold pX8_passNumber
  refine s_aload_n (pc := 0) 0 dX8_passNumber_0 rfl ?_
  refine xg_X8_32 0 ho rfl (pc := 1) dX8_passNumber_1 rfl ?_
  refine s_aload_n (pc := 4) 0 dX8_passNumber_4 rfl ?_
  refine xg_X8_45 0 ho rfl (pc := 5) dX8_passNumber_5 rfl ?_
  refine xl_8_6 0 ho rfl (pc := 8) dX8_passNumber_8 ?_
  refine s_bipush (v := 30) (pc := 9) dX8_passNumber_9 (by decide) ?_
  refine s_icmp_eq (tgt := 21) (pc := 11) dX8_passNumber_11 (by decide) (fun _ => ?_) (fun _ => ?_)
  · refine s_aload_n (pc := 21) 0 dX8_passNumber_21 rfl ?_
    refine xg_X8_39 0 ho rfl (pc := 22) dX8_passNumber_22 rfl ?_
    refine s_aload_n (pc := 25) 0 dX8_passNumber_25 rfl ?_
    refine xg_X8_45 0 ho rfl (pc := 26) dX8_passNumber_26 rfl ?_
    refine xl_8_8 0 ho rfl (pc := 29) dX8_passNumber_29 ?_
    refine s_l2i (pc := 30) dX8_passNumber_30 ?_
    refine s_istore_nT (lv' := fun x1 => [(3, .int x1), (0, .ref b0), (1, .int a0), (2, .int a1)]) (pc := 31) dX8_passNumber_31 (by decide) (fun _ => rfl) (fun x1 => ?_)
    refine s_iload_n (pc := 32) 0 dX8_passNumber_32 rfl ?_
    refine s_iload_n (pc := 33) 2 dX8_passNumber_33 rfl ?_
    refine s_icmp_lt (tgt := 42) (pc := 34) dX8_passNumber_34 (by decide) (fun _ => ?_) (fun _ => ?_)
    · refine s_sub [1] rfl ?_
      exact X8_passNumber_j42_ok ho s0
    · refine s_iload_n (pc := 37) 0 dX8_passNumber_37 rfl ?_
      refine s_iload_n (pc := 38) 3 dX8_passNumber_38 rfl ?_
      refine s_icmp_le (tgt := 50) (pc := 39) dX8_passNumber_39 (by decide) (fun _ => ?_) (fun _ => ?_)
      · refine s_aload_n (pc := 50) 1 dX8_passNumber_50 rfl ?_
        refine x_callV (M := MX8_passNumber) (L := [(8, b0, f0, s0)]) (h := h) (j := 0) (As := []) (st := []) (A := fun (x : RS) => none) (Lc := [(8, b0, f0, s0)]) (Lr := fun (x : RS) => [(8, b0, f0, x)]) (L2 := fun (x : RS) => [(8, b0, f0, x)]) cv_X8_99 (by decide) (pc := 51) dX8_passNumber_51 ho rfl xc0_8 rfl rfl (Nat.le_of_ble_eq_true rfl) (xovs (L := [(8, b0, f0, s0)]) (h := h) [(0, (8, b0, f0, s0))] ho ⟨rfl, trivial⟩).1 (fun x => (xovs (L := [(8, b0, f0, s0)]) (h := h) [(0, (8, b0, f0, x))] ho ⟨rfl, trivial⟩).1) (fun x hx => pX8_advance_ok (h := xw [(8, b0, f0, s0)] h) (f0 := f0) (xok_sub ho [0] rfl (by decide)) s0 x hx) rfl (fun x3 _ => ?_)
        refine s_iload_n (pc := 54) 0 dX8_passNumber_54 rfl ?_
        exact s_iret (pc := 55) dX8_passNumber_55 rfl (fun _ _ q => q)
      · refine s_sub [1] rfl ?_
        exact X8_passNumber_j42_ok ho s0
  · refine s_aload_n (pc := 14) 0 dX8_passNumber_14 rfl ?_
    refine x_callV (M := MX8_passNumber) (L := [(8, b0, f0, s0)]) (h := h) (j := 0) (As := []) (st := []) (A := fun (x : Bool × RS) => some (.int (b2i x.1))) (Lc := [(8, b0, f0, s0)]) (Lr := fun (x : Bool × RS) => [(8, b0, f0, x.2)]) (L2 := fun (x : Bool × RS) => [(8, b0, f0, x.2)]) cv_X8_95 (by decide) (pc := 15) dX8_passNumber_15 ho rfl xc0_8 rfl rfl (Nat.le_of_ble_eq_true rfl) (xovs (L := [(8, b0, f0, s0)]) (h := h) [(0, (8, b0, f0, s0))] ho ⟨rfl, trivial⟩).1 (fun x => (xovs (L := [(8, b0, f0, s0)]) (h := h) [(0, (8, b0, f0, x.2))] ho ⟨rfl, trivial⟩).1) (fun x hx => pX8_blameToken_ok (h := xw [(8, b0, f0, s0)] h) (f0 := f0) (xok_sub ho [0] rfl (by decide)) s0 x hx) rfl (fun x4 _ => ?_)
    refine s_pop (pc := 18) dX8_passNumber_18 rfl ?_
    refine s_iconst (v := (-1)) (pc := 19) dX8_passNumber_19 (by decide) ?_
    exact s_iret (pc := 20) dX8_passNumber_20 rfl (fun _ _ q => q)
theorem pX8_passNumber_ok (ho : xok [(8, b0)] h.2.1) (s0 : RS) (a0 : Int32) (a1 : Int32) : ∀ x, pX8_passNumber s0 a0 a1 = some x → aMet l 1 yX8_passNumber cX8_passNumber 4 (some .int) [.ref b0, .int a0, .int a1] (xw [(8, b0, f0, s0)] h) (some (.int x.1)) (xw [(8, b0, f0, x.2)] h) := fun x hx => a_meth (ini := false) (y := yX8_passNumber) (by decide +kernel) (fun q => by cases q) (fun _ => Nat.le_of_ble_eq_true rfl) (pX8_passNumber_w ho s0 a0 a1) x hx _ _ ⟨rfl, rfl⟩
end
section
variable {l : Launch} {n0 S0 : Nat} {h : aH} {b0 b1 : Nat} {f0 f1 : Nat → Option Nat}
abbrev MX8_changeHere : aM := (cX8_changeHere, RX8, 3, (some .int), false)
def pX8_changeHere (s0 : RS) (s1 : RS) : Option (Int32 × RS) :=
  (pX8_isName s0).bind fun x1 =>
  if x1 = true then
    g_in (s0.1 10) 901 (
    (pX0_findChange s1 (s0.2.2.2 8 (s0.1 10).toNatClampNeg)).bind fun x2 =>
    if x2 = (-1 : Int32) then
      (pX8_blame s0 (3 : Int32)).bind fun x3 =>
      some (x2, x3.2)
    else
      some (x2, s0))
  else
    (pX8_blameToken s0).bind fun x4 =>
    some ((-1 : Int32), x4.2)
theorem pX8_changeHere_w (ho : xok [(8, b0), (0, b1)] h.2.1) (s0 : RS) (s1 : RS) : aS l 1 MX8_changeHere n0 S0 (oΦ (fun (x : Int32 × RS) => ((some (.int x.1)), xw [(8, b0, f0, x.2), (0, b1, f1, s1)] h))) 0 [(0, .ref b0), (1, .ref b1)] [] (xw [(8, b0, f0, s0), (0, b1, f1, s1)] h) (pX8_changeHere s0 s1) := by
  unfold pX8_changeHere
  refine s_aload_n (pc := 0) 0 dX8_changeHere_0 rfl ?_
  refine x_callV (M := MX8_changeHere) (L := [(8, b0, f0, s0), (0, b1, f1, s1)]) (h := h) (j := 0) (As := []) (st := []) (A := fun (x : Bool) => some (.int (b2i x))) (Lc := [(8, b0, f0, s0)]) (Lr := fun (x : Bool) => [(8, b0, f0, s0)]) (L2 := fun (x : Bool) => [(8, b0, f0, s0), (0, b1, f1, s1)]) cv_X8_105 (by decide) (pc := 1) dX8_changeHere_1 ho rfl xc0_8 rfl rfl (Nat.le_of_ble_eq_true rfl) (xovs (L := [(8, b0, f0, s0), (0, b1, f1, s1)]) (h := h) [(0, (8, b0, f0, s0))] ho ⟨rfl, trivial⟩).1 (fun x => (xovs (L := [(8, b0, f0, s0), (0, b1, f1, s1)]) (h := h) [(0, (8, b0, f0, s0))] ho ⟨rfl, trivial⟩).1) (fun x hx => pX8_isName_ok (h := xw [(8, b0, f0, s0), (0, b1, f1, s1)] h) (f0 := f0) (xok_sub ho [0] rfl (by decide)) s0 x hx) rfl (fun x1 _ => ?_)
  refine s_if_neB (tgt := 14) (pc := 4) dX8_changeHere_4 (by decide) (fun _ => ?_) (fun _ => ?_)
  · refine s_aload_n (pc := 14) 1 dX8_changeHere_14 rfl ?_
    refine s_aload_n (pc := 15) 0 dX8_changeHere_15 rfl ?_
    refine xg_X8_39 0 ho rfl (pc := 16) dX8_changeHere_16 rfl ?_
    refine s_aload_n (pc := 19) 0 dX8_changeHere_19 rfl ?_
    refine xg_X8_45 0 ho rfl (pc := 20) dX8_changeHere_20 rfl ?_
    refine xl_8_8 0 ho rfl (pc := 23) dX8_changeHere_23 ?_
    refine x_callV (M := MX8_changeHere) (L := [(8, b0, f0, s0), (0, b1, f1, s1)]) (h := h) (j := 1) (As := [.long (s0.2.2.2 8 (s0.1 10).toNatClampNeg)]) (st := []) (A := fun (x : Int32) => some (.int x)) (Lc := [(0, b1, f1, s1)]) (Lr := fun (x : Int32) => [(0, b1, f1, s1)]) (L2 := fun (x : Int32) => [(8, b0, f0, s0), (0, b1, f1, s1)]) cv_X8_108 (by decide) (pc := 24) dX8_changeHere_24 ho rfl xc0_0 rfl rfl (Nat.le_of_ble_eq_true rfl) (xovs (L := [(8, b0, f0, s0), (0, b1, f1, s1)]) (h := h) [(1, (0, b1, f1, s1))] ho ⟨rfl, trivial⟩).1 (fun x => (xovs (L := [(8, b0, f0, s0), (0, b1, f1, s1)]) (h := h) [(1, (0, b1, f1, s1))] ho ⟨rfl, trivial⟩).1) (fun x hx => pX0_findChange_ok (h := xw [(8, b0, f0, s0), (0, b1, f1, s1)] h) (f0 := f1) (xok_sub ho [1] rfl (by decide)) s1 (s0.2.2.2 8 (s0.1 10).toNatClampNeg) x hx) rfl (fun x2 _ => ?_)
    refine s_istore_n (lv' := [(2, .int x2), (0, .ref b0), (1, .ref b1)]) (pc := 27) dX8_changeHere_27 (by decide) rfl ?_
    refine s_iload_n (pc := 28) 0 dX8_changeHere_28 rfl ?_
    refine s_iconst (v := (-1)) (pc := 29) dX8_changeHere_29 (by decide) ?_
    refine s_icmp_ne (tgt := 39) (pc := 30) dX8_changeHere_30 (by decide) (fun _ => ?_) (fun _ => ?_)
    · refine s_aload_n (pc := 33) 1 dX8_changeHere_33 rfl ?_
      refine s_iconst (v := 3) (pc := 34) dX8_changeHere_34 (by decide) ?_
      refine x_callV (M := MX8_changeHere) (L := [(8, b0, f0, s0), (0, b1, f1, s1)]) (h := h) (j := 0) (As := [.int 3]) (st := []) (A := fun (x : Bool × RS) => some (.int (b2i x.1))) (Lc := [(8, b0, f0, s0)]) (Lr := fun (x : Bool × RS) => [(8, b0, f0, x.2)]) (L2 := fun (x : Bool × RS) => [(8, b0, f0, x.2), (0, b1, f1, s1)]) cv_X8_102 (by decide) (pc := 35) dX8_changeHere_35 ho rfl xc0_8 rfl rfl (Nat.le_of_ble_eq_true rfl) (xovs (L := [(8, b0, f0, s0), (0, b1, f1, s1)]) (h := h) [(0, (8, b0, f0, s0))] ho ⟨rfl, trivial⟩).1 (fun x => (xovs (L := [(8, b0, f0, s0), (0, b1, f1, s1)]) (h := h) [(0, (8, b0, f0, x.2))] ho ⟨rfl, trivial⟩).1) (fun x hx => pX8_blame_ok (h := xw [(8, b0, f0, s0), (0, b1, f1, s1)] h) (f0 := f0) (xok_sub ho [0] rfl (by decide)) s0 (3 : Int32) x hx) rfl (fun x3 _ => ?_)
      refine s_pop (pc := 38) dX8_changeHere_38 rfl ?_
      refine s_iload_n (pc := 39) 0 dX8_changeHere_39 rfl ?_
      exact s_iret (pc := 40) dX8_changeHere_40 rfl (fun _ _ q => q)
    · refine s_iload_n (pc := 39) 0 dX8_changeHere_39 rfl ?_
      exact s_iret (pc := 40) dX8_changeHere_40 rfl (fun _ _ q => q)
  · refine s_aload_n (pc := 7) 0 dX8_changeHere_7 rfl ?_
    refine x_callV (M := MX8_changeHere) (L := [(8, b0, f0, s0), (0, b1, f1, s1)]) (h := h) (j := 0) (As := []) (st := []) (A := fun (x : Bool × RS) => some (.int (b2i x.1))) (Lc := [(8, b0, f0, s0)]) (Lr := fun (x : Bool × RS) => [(8, b0, f0, x.2)]) (L2 := fun (x : Bool × RS) => [(8, b0, f0, x.2), (0, b1, f1, s1)]) cv_X8_95 (by decide) (pc := 8) dX8_changeHere_8 ho rfl xc0_8 rfl rfl (Nat.le_of_ble_eq_true rfl) (xovs (L := [(8, b0, f0, s0), (0, b1, f1, s1)]) (h := h) [(0, (8, b0, f0, s0))] ho ⟨rfl, trivial⟩).1 (fun x => (xovs (L := [(8, b0, f0, s0), (0, b1, f1, s1)]) (h := h) [(0, (8, b0, f0, x.2))] ho ⟨rfl, trivial⟩).1) (fun x hx => pX8_blameToken_ok (h := xw [(8, b0, f0, s0), (0, b1, f1, s1)] h) (f0 := f0) (xok_sub ho [0] rfl (by decide)) s0 x hx) rfl (fun x4 _ => ?_)
    refine s_pop (pc := 11) dX8_changeHere_11 rfl ?_
    refine s_iconst (v := (-1)) (pc := 12) dX8_changeHere_12 (by decide) ?_
    exact s_iret (pc := 13) dX8_changeHere_13 rfl (fun _ _ q => q)
theorem pX8_changeHere_ok (ho : xok [(8, b0), (0, b1)] h.2.1) (s0 : RS) (s1 : RS) : ∀ x, pX8_changeHere s0 s1 = some x → aMet l 1 yX8_changeHere cX8_changeHere 3 (some .int) [.ref b0, .ref b1] (xw [(8, b0, f0, s0), (0, b1, f1, s1)] h) (some (.int x.1)) (xw [(8, b0, f0, x.2), (0, b1, f1, s1)] h) := fun x hx => a_meth (ini := false) (y := yX8_changeHere) (by decide +kernel) (fun q => by cases q) (fun _ => Nat.le_of_ble_eq_true rfl) (pX8_changeHere_w ho s0 s1) x hx _ _ ⟨rfl, rfl⟩
end
section
variable {l : Launch} {n0 S0 : Nat} {h : aH} {b0 b1 : Nat} {f0 f1 : Nat → Option Nat}
abbrev MX8_islandHere : aM := (cX8_islandHere, RX8, 3, (some .int), false)
def pX8_islandHere (s0 : RS) (s1 : RS) : Option (Int32 × RS) :=
  (pX8_isName s0).bind fun x1 =>
  if x1 = true then
    g_in (s0.1 10) 901 (
    (pX0_findIsland s1 (s0.2.2.2 8 (s0.1 10).toNatClampNeg)).bind fun x2 =>
    if x2 = (-1 : Int32) then
      (pX8_blame s0 (3 : Int32)).bind fun x3 =>
      some (x2, x3.2)
    else
      some (x2, s0))
  else
    (pX8_blameToken s0).bind fun x4 =>
    some ((-1 : Int32), x4.2)
theorem pX8_islandHere_w (ho : xok [(8, b0), (0, b1)] h.2.1) (s0 : RS) (s1 : RS) : aS l 1 MX8_islandHere n0 S0 (oΦ (fun (x : Int32 × RS) => ((some (.int x.1)), xw [(8, b0, f0, x.2), (0, b1, f1, s1)] h))) 0 [(0, .ref b0), (1, .ref b1)] [] (xw [(8, b0, f0, s0), (0, b1, f1, s1)] h) (pX8_islandHere s0 s1) := by
  unfold pX8_islandHere
  refine s_aload_n (pc := 0) 0 dX8_islandHere_0 rfl ?_
  refine x_callV (M := MX8_islandHere) (L := [(8, b0, f0, s0), (0, b1, f1, s1)]) (h := h) (j := 0) (As := []) (st := []) (A := fun (x : Bool) => some (.int (b2i x))) (Lc := [(8, b0, f0, s0)]) (Lr := fun (x : Bool) => [(8, b0, f0, s0)]) (L2 := fun (x : Bool) => [(8, b0, f0, s0), (0, b1, f1, s1)]) cv_X8_105 (by decide) (pc := 1) dX8_islandHere_1 ho rfl xc0_8 rfl rfl (Nat.le_of_ble_eq_true rfl) (xovs (L := [(8, b0, f0, s0), (0, b1, f1, s1)]) (h := h) [(0, (8, b0, f0, s0))] ho ⟨rfl, trivial⟩).1 (fun x => (xovs (L := [(8, b0, f0, s0), (0, b1, f1, s1)]) (h := h) [(0, (8, b0, f0, s0))] ho ⟨rfl, trivial⟩).1) (fun x hx => pX8_isName_ok (h := xw [(8, b0, f0, s0), (0, b1, f1, s1)] h) (f0 := f0) (xok_sub ho [0] rfl (by decide)) s0 x hx) rfl (fun x1 _ => ?_)
  refine s_if_neB (tgt := 14) (pc := 4) dX8_islandHere_4 (by decide) (fun _ => ?_) (fun _ => ?_)
  · refine s_aload_n (pc := 14) 1 dX8_islandHere_14 rfl ?_
    refine s_aload_n (pc := 15) 0 dX8_islandHere_15 rfl ?_
    refine xg_X8_39 0 ho rfl (pc := 16) dX8_islandHere_16 rfl ?_
    refine s_aload_n (pc := 19) 0 dX8_islandHere_19 rfl ?_
    refine xg_X8_45 0 ho rfl (pc := 20) dX8_islandHere_20 rfl ?_
    refine xl_8_8 0 ho rfl (pc := 23) dX8_islandHere_23 ?_
    refine x_callV (M := MX8_islandHere) (L := [(8, b0, f0, s0), (0, b1, f1, s1)]) (h := h) (j := 1) (As := [.long (s0.2.2.2 8 (s0.1 10).toNatClampNeg)]) (st := []) (A := fun (x : Int32) => some (.int x)) (Lc := [(0, b1, f1, s1)]) (Lr := fun (x : Int32) => [(0, b1, f1, s1)]) (L2 := fun (x : Int32) => [(8, b0, f0, s0), (0, b1, f1, s1)]) cv_X8_113 (by decide) (pc := 24) dX8_islandHere_24 ho rfl xc0_0 rfl rfl (Nat.le_of_ble_eq_true rfl) (xovs (L := [(8, b0, f0, s0), (0, b1, f1, s1)]) (h := h) [(1, (0, b1, f1, s1))] ho ⟨rfl, trivial⟩).1 (fun x => (xovs (L := [(8, b0, f0, s0), (0, b1, f1, s1)]) (h := h) [(1, (0, b1, f1, s1))] ho ⟨rfl, trivial⟩).1) (fun x hx => pX0_findIsland_ok (h := xw [(8, b0, f0, s0), (0, b1, f1, s1)] h) (f0 := f1) (xok_sub ho [1] rfl (by decide)) s1 (s0.2.2.2 8 (s0.1 10).toNatClampNeg) x hx) rfl (fun x2 _ => ?_)
    refine s_istore_n (lv' := [(2, .int x2), (0, .ref b0), (1, .ref b1)]) (pc := 27) dX8_islandHere_27 (by decide) rfl ?_
    refine s_iload_n (pc := 28) 0 dX8_islandHere_28 rfl ?_
    refine s_iconst (v := (-1)) (pc := 29) dX8_islandHere_29 (by decide) ?_
    refine s_icmp_ne (tgt := 39) (pc := 30) dX8_islandHere_30 (by decide) (fun _ => ?_) (fun _ => ?_)
    · refine s_aload_n (pc := 33) 1 dX8_islandHere_33 rfl ?_
      refine s_iconst (v := 3) (pc := 34) dX8_islandHere_34 (by decide) ?_
      refine x_callV (M := MX8_islandHere) (L := [(8, b0, f0, s0), (0, b1, f1, s1)]) (h := h) (j := 0) (As := [.int 3]) (st := []) (A := fun (x : Bool × RS) => some (.int (b2i x.1))) (Lc := [(8, b0, f0, s0)]) (Lr := fun (x : Bool × RS) => [(8, b0, f0, x.2)]) (L2 := fun (x : Bool × RS) => [(8, b0, f0, x.2), (0, b1, f1, s1)]) cv_X8_102 (by decide) (pc := 35) dX8_islandHere_35 ho rfl xc0_8 rfl rfl (Nat.le_of_ble_eq_true rfl) (xovs (L := [(8, b0, f0, s0), (0, b1, f1, s1)]) (h := h) [(0, (8, b0, f0, s0))] ho ⟨rfl, trivial⟩).1 (fun x => (xovs (L := [(8, b0, f0, s0), (0, b1, f1, s1)]) (h := h) [(0, (8, b0, f0, x.2))] ho ⟨rfl, trivial⟩).1) (fun x hx => pX8_blame_ok (h := xw [(8, b0, f0, s0), (0, b1, f1, s1)] h) (f0 := f0) (xok_sub ho [0] rfl (by decide)) s0 (3 : Int32) x hx) rfl (fun x3 _ => ?_)
      refine s_pop (pc := 38) dX8_islandHere_38 rfl ?_
      refine s_iload_n (pc := 39) 0 dX8_islandHere_39 rfl ?_
      exact s_iret (pc := 40) dX8_islandHere_40 rfl (fun _ _ q => q)
    · refine s_iload_n (pc := 39) 0 dX8_islandHere_39 rfl ?_
      exact s_iret (pc := 40) dX8_islandHere_40 rfl (fun _ _ q => q)
  · refine s_aload_n (pc := 7) 0 dX8_islandHere_7 rfl ?_
    refine x_callV (M := MX8_islandHere) (L := [(8, b0, f0, s0), (0, b1, f1, s1)]) (h := h) (j := 0) (As := []) (st := []) (A := fun (x : Bool × RS) => some (.int (b2i x.1))) (Lc := [(8, b0, f0, s0)]) (Lr := fun (x : Bool × RS) => [(8, b0, f0, x.2)]) (L2 := fun (x : Bool × RS) => [(8, b0, f0, x.2), (0, b1, f1, s1)]) cv_X8_95 (by decide) (pc := 8) dX8_islandHere_8 ho rfl xc0_8 rfl rfl (Nat.le_of_ble_eq_true rfl) (xovs (L := [(8, b0, f0, s0), (0, b1, f1, s1)]) (h := h) [(0, (8, b0, f0, s0))] ho ⟨rfl, trivial⟩).1 (fun x => (xovs (L := [(8, b0, f0, s0), (0, b1, f1, s1)]) (h := h) [(0, (8, b0, f0, x.2))] ho ⟨rfl, trivial⟩).1) (fun x hx => pX8_blameToken_ok (h := xw [(8, b0, f0, s0), (0, b1, f1, s1)] h) (f0 := f0) (xok_sub ho [0] rfl (by decide)) s0 x hx) rfl (fun x4 _ => ?_)
    refine s_pop (pc := 11) dX8_islandHere_11 rfl ?_
    refine s_iconst (v := (-1)) (pc := 12) dX8_islandHere_12 (by decide) ?_
    exact s_iret (pc := 13) dX8_islandHere_13 rfl (fun _ _ q => q)
theorem pX8_islandHere_ok (ho : xok [(8, b0), (0, b1)] h.2.1) (s0 : RS) (s1 : RS) : ∀ x, pX8_islandHere s0 s1 = some x → aMet l 1 yX8_islandHere cX8_islandHere 3 (some .int) [.ref b0, .ref b1] (xw [(8, b0, f0, s0), (0, b1, f1, s1)] h) (some (.int x.1)) (xw [(8, b0, f0, x.2), (0, b1, f1, s1)] h) := fun x hx => a_meth (ini := false) (y := yX8_islandHere) (by decide +kernel) (fun q => by cases q) (fun _ => Nat.le_of_ble_eq_true rfl) (pX8_islandHere_w ho s0 s1) x hx _ _ ⟨rfl, rfl⟩
end
section
variable {l : Launch} {n0 S0 : Nat} {h : aH} {b0 b1 : Nat} {f0 f1 : Nat → Option Nat}
abbrev MX5_isReady : aM := (cX5_isReady, RX5, 4, (some .boolean), false)
def X5_isReady_j27 (v2 : Int32) (v3 : Int32) (s0 : RS) (s1 : RS) : Option Bool :=
  if (v3 &&& (v2 ^^^ (-1 : Int32))) = 0 then
    some true
  else
    some false
theorem X5_isReady_j27_ok (ho : xok [(5, b0), (0, b1)] h.2.1) (hq_0_0 : f0 0 = some b1) (v2 : Int32) (v3 : Int32) (s0 : RS) (s1 : RS) : aS l 0 MX5_isReady n0 S0 (oΦ (fun (x : Bool) => ((some (.int (b2i x))), xw [(5, b0, f0, s0), (0, b1, f1, s1)] h))) 27 [(2, .int v2), (3, .int v3)] [] (xw [(5, b0, f0, s0), (0, b1, f1, s1)] h) (X5_isReady_j27 v2 v3 s0 s1) := by
  unfold X5_isReady_j27
  refine s_iload_n (pc := 27) 1 dX5_isReady_27 rfl ?_
  refine s_iload_n (pc := 28) 0 dX5_isReady_28 rfl ?_
  refine s_iconst (v := (-1)) (pc := 29) dX5_isReady_29 (by decide) ?_
  refine s_ixor (pc := 30) dX5_isReady_30 ?_
  refine s_iand (pc := 31) dX5_isReady_31 ?_
  refine s_if_ne (tgt := 39) (pc := 32) dX5_isReady_32 (by decide) (fun _ => ?_) (fun _ => ?_)
  · refine s_iconst (v := 1) (pc := 35) dX5_isReady_35 (by decide) ?_
    refine s_goto (tgt := 40) (pc := 36) dX5_isReady_36 (by decide) ?_
    exact s_zretB (b := true) (pc := 40) dX5_isReady_40 rfl (fun _ _ q => q)
  · refine s_iconst (v := 0) (pc := 39) dX5_isReady_39 (by decide) ?_
    exact s_zretB (b := false) (pc := 40) dX5_isReady_40 rfl (fun _ _ q => q)
def pX5_isReady (s0 : RS) (s1 : RS) (a0 : Int32) (a1 : Int32) : Option Bool :=
  g_in a0 16 (
  thn (s1.2.2.1 10 a0.toNatClampNeg) fun x1 =>
  if a0 = (s0.1 3) then
    thn (x1 ||| ((1 : Int32) <<< ((s0.1 2) &&& 31))) fun x2 =>
    X5_isReady_j27 a1 x2 s0 s1
  else
    X5_isReady_j27 a1 x1 s0 s1)
theorem pX5_isReady_w (ho : xok [(5, b0), (0, b1)] h.2.1) (hq_0_0 : f0 0 = some b1) (s0 : RS) (s1 : RS) (a0 : Int32) (a1 : Int32) : aS l 0 MX5_isReady n0 S0 (oΦ (fun (x : Bool) => ((some (.int (b2i x))), xw [(5, b0, f0, s0), (0, b1, f1, s1)] h))) 0 [(0, .ref b0), (1, .int a0), (2, .int a1)] [] (xw [(5, b0, f0, s0), (0, b1, f1, s1)] h) (pX5_isReady s0 s1 a0 a1) := by
  unfold pX5_isReady
  refine s_aload_n (pc := 0) 0 dX5_isReady_0 rfl ?_
  refine xg_X5_14 0 ho rfl (pc := 1) dX5_isReady_1 rfl hq_0_0 ?_
  refine xg_X5_47 1 ho rfl (pc := 4) dX5_isReady_4 rfl ?_
  refine s_iload_n (pc := 7) 1 dX5_isReady_7 rfl ?_
  refine xl_0_10 1 ho rfl (pc := 8) dX5_isReady_8 ?_
  refine s_istore_nT (lv' := fun x1 => [(3, .int x1), (0, .ref b0), (1, .int a0), (2, .int a1)]) (pc := 9) dX5_isReady_9 (by decide) (fun _ => rfl) (fun x1 => ?_)
  refine s_iload_n (pc := 10) 2 dX5_isReady_10 rfl ?_
  refine s_aload_n (pc := 11) 1 dX5_isReady_11 rfl ?_
  refine xg_X5_25 0 ho rfl (pc := 12) dX5_isReady_12 rfl ?_
  refine s_icmp_ne (tgt := 27) (pc := 15) dX5_isReady_15 (by decide) (fun _ => ?_) (fun _ => ?_)
  · refine s_iload_n (pc := 18) 0 dX5_isReady_18 rfl ?_
    refine s_iconst (v := 1) (pc := 19) dX5_isReady_19 (by decide) ?_
    refine s_aload_n (pc := 20) 1 dX5_isReady_20 rfl ?_
    refine xg_X5_22 0 ho rfl (pc := 21) dX5_isReady_21 rfl ?_
    refine s_ishl (pc := 24) dX5_isReady_24 ?_
    refine s_ior (pc := 25) dX5_isReady_25 ?_
    refine s_istore_nT (lv' := fun x2 => [(3, .int x2), (0, .ref b0), (1, .int a0), (2, .int a1)]) (pc := 26) dX5_isReady_26 (by decide) (fun _ => rfl) (fun x2 => ?_)
    refine s_sub [3, 0] rfl ?_
    exact X5_isReady_j27_ok ho hq_0_0 a1 x2 s0 s1
  · refine s_sub [3, 0] rfl ?_
    exact X5_isReady_j27_ok ho hq_0_0 a1 x1 s0 s1
theorem pX5_isReady_ok (ho : xok [(5, b0), (0, b1)] h.2.1) (hq_0_0 : f0 0 = some b1) (s0 : RS) (s1 : RS) (a0 : Int32) (a1 : Int32) : ∀ x, pX5_isReady s0 s1 a0 a1 = some x → aMet l 0 yX5_isReady cX5_isReady 4 (some .boolean) [.ref b0, .int a0, .int a1] (xw [(5, b0, f0, s0), (0, b1, f1, s1)] h) (some (.int (b2i x))) (xw [(5, b0, f0, s0), (0, b1, f1, s1)] h) := fun x hx => a_meth (ini := false) (y := yX5_isReady) (by decide +kernel) (fun q => by cases q) (fun _ => Nat.le_of_ble_eq_true rfl) (pX5_isReady_w ho hq_0_0 s0 s1 a0 a1) x hx _ _ ⟨rfl, rfl⟩
end
section
variable {l : Launch} {n0 S0 : Nat} {h : aH} {b0 b1 : Nat} {f0 f1 : Nat → Option Nat}
abbrev MX5_isAwaited : aM := (cX5_isAwaited, RX5, 3, (some .boolean), false)
def pX5_isAwaited (s0 : RS) (s1 : RS) (a0 : Int32) (a1 : Int32) : Option Bool :=
  g_in a0 16 (
  if ((s1.2.2.1 11 a0.toNatClampNeg) &&& a1) = 0 then
    if a0 = (s0.1 2) then
      (pX0_isIn a1 (s0.1 3)).bind fun x1 =>
      if x1 = true then
        some true
      else
        some false
    else
      some false
  else
    some true)
theorem pX5_isAwaited_w (ho : xok [(5, b0), (0, b1)] h.2.1) (hq_0_0 : f0 0 = some b1) (s0 : RS) (s1 : RS) (a0 : Int32) (a1 : Int32) : aS l 1 MX5_isAwaited n0 S0 (oΦ (fun (x : Bool) => ((some (.int (b2i x))), xw [(5, b0, f0, s0), (0, b1, f1, s1)] h))) 0 [(0, .ref b0), (1, .int a0), (2, .int a1)] [] (xw [(5, b0, f0, s0), (0, b1, f1, s1)] h) (pX5_isAwaited s0 s1 a0 a1) := by
  unfold pX5_isAwaited
  refine s_aload_n (pc := 0) 0 dX5_isAwaited_0 rfl ?_
  refine xg_X5_14 0 ho rfl (pc := 1) dX5_isAwaited_1 rfl hq_0_0 ?_
  refine xg_X5_51 1 ho rfl (pc := 4) dX5_isAwaited_4 rfl ?_
  refine s_iload_n (pc := 7) 1 dX5_isAwaited_7 rfl ?_
  refine xl_0_11 1 ho rfl (pc := 8) dX5_isAwaited_8 ?_
  refine s_iload_n (pc := 9) 2 dX5_isAwaited_9 rfl ?_
  refine s_iand (pc := 10) dX5_isAwaited_10 ?_
  refine s_if_ne (tgt := 33) (pc := 11) dX5_isAwaited_11 (by decide) (fun _ => ?_) (fun _ => ?_)
  · refine s_iload_n (pc := 14) 1 dX5_isAwaited_14 rfl ?_
    refine s_aload_n (pc := 15) 0 dX5_isAwaited_15 rfl ?_
    refine xg_X5_22 0 ho rfl (pc := 16) dX5_isAwaited_16 rfl ?_
    refine s_icmp_ne (tgt := 37) (pc := 19) dX5_isAwaited_19 (by decide) (fun _ => ?_) (fun _ => ?_)
    · refine s_iload_n (pc := 22) 2 dX5_isAwaited_22 rfl ?_
      refine s_aload_n (pc := 23) 0 dX5_isAwaited_23 rfl ?_
      refine xg_X5_25 0 ho rfl (pc := 24) dX5_isAwaited_24 rfl ?_
      refine s_callS (M := MX5_isAwaited) (As := [.int a1, .int (s0.1 3)]) (st := []) (Ψ := fun (x : Bool) => (some (.int (b2i x)), xw [(5, b0, f0, s0), (0, b1, f1, s1)] h)) cs_X5_54 (by decide) (pc := 27) dX5_isAwaited_27 rfl (Nat.le_of_ble_eq_true rfl) (fun x hx => pX0_isIn_ok a1 (s0.1 3) x hx) rfl (fun x1 _ => ?_)
      refine s_if_eqB (tgt := 37) (pc := 30) dX5_isAwaited_30 (by decide) (fun _ => ?_) (fun _ => ?_)
      · refine s_iconst (v := 1) (pc := 33) dX5_isAwaited_33 (by decide) ?_
        refine s_goto (tgt := 38) (pc := 34) dX5_isAwaited_34 (by decide) ?_
        exact s_zretB (b := true) (pc := 38) dX5_isAwaited_38 rfl (fun _ _ q => q)
      · refine s_iconst (v := 0) (pc := 37) dX5_isAwaited_37 (by decide) ?_
        exact s_zretB (b := false) (pc := 38) dX5_isAwaited_38 rfl (fun _ _ q => q)
    · refine s_iconst (v := 0) (pc := 37) dX5_isAwaited_37 (by decide) ?_
      exact s_zretB (b := false) (pc := 38) dX5_isAwaited_38 rfl (fun _ _ q => q)
  · refine s_iconst (v := 1) (pc := 33) dX5_isAwaited_33 (by decide) ?_
    refine s_goto (tgt := 38) (pc := 34) dX5_isAwaited_34 (by decide) ?_
    exact s_zretB (b := true) (pc := 38) dX5_isAwaited_38 rfl (fun _ _ q => q)
theorem pX5_isAwaited_ok (ho : xok [(5, b0), (0, b1)] h.2.1) (hq_0_0 : f0 0 = some b1) (s0 : RS) (s1 : RS) (a0 : Int32) (a1 : Int32) : ∀ x, pX5_isAwaited s0 s1 a0 a1 = some x → aMet l 1 yX5_isAwaited cX5_isAwaited 3 (some .boolean) [.ref b0, .int a0, .int a1] (xw [(5, b0, f0, s0), (0, b1, f1, s1)] h) (some (.int (b2i x))) (xw [(5, b0, f0, s0), (0, b1, f1, s1)] h) := fun x hx => a_meth (ini := false) (y := yX5_isAwaited) (by decide +kernel) (fun q => by cases q) (fun _ => Nat.le_of_ble_eq_true rfl) (pX5_isAwaited_w ho hq_0_0 s0 s1 a0 a1) x hx _ _ ⟨rfl, rfl⟩
end
section
variable {l : Launch} {n0 S0 : Nat} {h : aH} {b0 b1 : Nat} {f0 f1 : Nat → Option Nat}
abbrev MX5_freeAmong : aM := (cX5_freeAmong, RX5, 5, (some .int), false)
def X5_freeAmong_x5 (l : Launch) (n0 S0 : Nat) (h : aH) (b0 : Nat) (b1 : Nat) (f0 : Nat → Option Nat) (f1 : Nat → Option Nat) (v1 : Int32) (v2 : Int32) (s0 : RS) (s1 : RS) : Int32 → Option Value → aH → Prop := fun (x : Int32) r h' => aEv l 2 MX5_freeAmong n0 S0 49 [(3, .int x)] [] (xw [(5, b0, f0, s0), (0, b1, f1, s1)] h) r h'
def X5_freeAmong_j43 (v1 : Int32) (v2 : Int32) (v3 : Int32) (v4 : Int32) (s0 : RS) (s1 : RS) : Option ((Int32 × Int32) ⊕ Int32) :=
  thn (v4 + 1) fun x2 =>
  some (.inl (v3, x2))
theorem X5_freeAmong_j43_ok (ho : xok [(5, b0), (0, b1)] h.2.1) (hq_0_0 : f0 0 = some b1) (v1 : Int32) (v2 : Int32) (v3 : Int32) (v4 : Int32) (s0 : RS) (s1 : RS) : aS l 2 MX5_freeAmong n0 S0 (a_LΦ (X5_freeAmong_x5 l n0 S0 h b0 b1 f0 f1 v1 v2 s0 s1) l 2 MX5_freeAmong n0 S0 5 (fun (q : Int32 × Int32) => [(0, .ref b0), (1, .int v1), (2, .int v2), (3, .int q.1), (4, .int q.2)]) (fun _ => []) (fun (q : Int32 × Int32) => xw [(5, b0, f0, s0), (0, b1, f1, s1)] h)) 43 [(0, .ref b0), (1, .int v1), (2, .int v2), (3, .int v3), (4, .int v4)] [] (xw [(5, b0, f0, s0), (0, b1, f1, s1)] h) (X5_freeAmong_j43 v1 v2 v3 v4 s0 s1) := by
  unfold X5_freeAmong_j43
  refine s_iincT (pc := 43) 4 (lv' := fun x2 => [(4, .int x2), (0, .ref b0), (1, .int v1), (2, .int v2), (3, .int v3)]) dX5_freeAmong_43 rfl rfl (by decide) (fun _ => rfl) (fun x2 => ?_)
  refine s_goto (tgt := 5) (pc := 46) dX5_freeAmong_46 (by decide) ?_
  refine s_sub [1, 2, 3, 4, 0] rfl ?_
  exact s_ev (fun _ _ q => q)
def X5_freeAmong_b5 (v1 : Int32) (v2 : Int32) (v3 : Int32) (v4 : Int32) (s0 : RS) (s1 : RS) : Option ((Int32 × Int32) ⊕ Int32) :=
  if (s1.1 1) ≤ v4 then
    some (.inr v3)
  else
    (pX0_isIn v1 v4).bind fun x1 =>
    if x1 = true then
      (pX5_isAwaited s0 s1 v4 v2).bind fun x3 =>
      if x3 = true then
        X5_freeAmong_j43 v1 v2 v3 v4 s0 s1
      else
        thn (v3 ||| ((1 : Int32) <<< (v4 &&& 31))) fun x4 =>
        X5_freeAmong_j43 v1 v2 x4 v4 s0 s1
    else
      X5_freeAmong_j43 v1 v2 v3 v4 s0 s1
theorem X5_freeAmong_b5_ok (ho : xok [(5, b0), (0, b1)] h.2.1) (hq_0_0 : f0 0 = some b1) (v1 : Int32) (v2 : Int32) (v3 : Int32) (v4 : Int32) (s0 : RS) (s1 : RS) : aS l 2 MX5_freeAmong n0 S0 (a_LΦ (X5_freeAmong_x5 l n0 S0 h b0 b1 f0 f1 v1 v2 s0 s1) l 2 MX5_freeAmong n0 S0 5 (fun (q : Int32 × Int32) => [(0, .ref b0), (1, .int v1), (2, .int v2), (3, .int q.1), (4, .int q.2)]) (fun _ => []) (fun (q : Int32 × Int32) => xw [(5, b0, f0, s0), (0, b1, f1, s1)] h)) 5 [(0, .ref b0), (1, .int v1), (2, .int v2), (3, .int v3), (4, .int v4)] [] (xw [(5, b0, f0, s0), (0, b1, f1, s1)] h) (X5_freeAmong_b5 v1 v2 v3 v4 s0 s1) := by
  unfold X5_freeAmong_b5
  refine s_iload (pc := 5) 4 dX5_freeAmong_5 rfl ?_
  refine s_aload_n (pc := 7) 0 dX5_freeAmong_7 rfl ?_
  refine xg_X5_14 0 ho rfl (pc := 8) dX5_freeAmong_8 rfl hq_0_0 ?_
  refine xg_X5_40 1 ho rfl (pc := 11) dX5_freeAmong_11 rfl ?_
  refine s_icmp_ge (tgt := 49) (pc := 14) dX5_freeAmong_14 (by decide) (fun _ => ?_) (fun _ => ?_)
  · refine s_sub [3] rfl ?_
    exact s_ev (fun _ _ q => q)
  · refine s_iload_n (pc := 17) 1 dX5_freeAmong_17 rfl ?_
    refine s_iload (pc := 18) 4 dX5_freeAmong_18 rfl ?_
    refine s_callS (M := MX5_freeAmong) (As := [.int v1, .int v4]) (st := []) (Ψ := fun (x : Bool) => (some (.int (b2i x)), xw [(5, b0, f0, s0), (0, b1, f1, s1)] h)) cs_X5_54 (by decide) (pc := 20) dX5_freeAmong_20 rfl (Nat.le_of_ble_eq_true rfl) (fun x hx => pX0_isIn_ok v1 v4 x hx) rfl (fun x1 _ => ?_)
    refine s_if_eqB (tgt := 43) (pc := 23) dX5_freeAmong_23 (by decide) (fun _ => ?_) (fun _ => ?_)
    · refine s_aload_n (pc := 26) 0 dX5_freeAmong_26 rfl ?_
      refine s_iload (pc := 27) 4 dX5_freeAmong_27 rfl ?_
      refine s_iload_n (pc := 29) 2 dX5_freeAmong_29 rfl ?_
      refine x_callV (M := MX5_freeAmong) (L := [(5, b0, f0, s0), (0, b1, f1, s1)]) (h := h) (j := 0) (As := [.int v4, .int v2]) (st := []) (A := fun (x : Bool) => some (.int (b2i x))) (Lc := [(5, b0, f0, s0), (0, b1, f1, s1)]) (Lr := fun (x : Bool) => [(5, b0, f0, s0), (0, b1, f1, s1)]) (L2 := fun (x : Bool) => [(5, b0, f0, s0), (0, b1, f1, s1)]) cv_X5_83 (by decide) (pc := 30) dX5_freeAmong_30 ho rfl xc0_5 rfl rfl (Nat.le_of_ble_eq_true rfl) (xovs (L := [(5, b0, f0, s0), (0, b1, f1, s1)]) (h := h) [(0, (5, b0, f0, s0)), (1, (0, b1, f1, s1))] ho ⟨rfl, rfl, trivial⟩).1 (fun x => (xovs (L := [(5, b0, f0, s0), (0, b1, f1, s1)]) (h := h) [(0, (5, b0, f0, s0)), (1, (0, b1, f1, s1))] ho ⟨rfl, rfl, trivial⟩).1) (fun x hx => pX5_isAwaited_ok (h := xw [(5, b0, f0, s0), (0, b1, f1, s1)] h) (f0 := f0) (f1 := f1) (xok_sub ho [0, 1] rfl (by decide)) hq_0_0 s0 s1 v4 v2 x hx) rfl (fun x3 _ => ?_)
      refine s_if_neB (tgt := 43) (pc := 33) dX5_freeAmong_33 (by decide) (fun _ => ?_) (fun _ => ?_)
      · exact X5_freeAmong_j43_ok ho hq_0_0 v1 v2 v3 v4 s0 s1
      · refine s_iload_n (pc := 36) 3 dX5_freeAmong_36 rfl ?_
        refine s_iconst (v := 1) (pc := 37) dX5_freeAmong_37 (by decide) ?_
        refine s_iload (pc := 38) 4 dX5_freeAmong_38 rfl ?_
        refine s_ishl (pc := 40) dX5_freeAmong_40 ?_
        refine s_ior (pc := 41) dX5_freeAmong_41 ?_
        refine s_istore_nT (lv' := fun x4 => [(3, .int x4), (0, .ref b0), (1, .int v1), (2, .int v2), (4, .int v4)]) (pc := 42) dX5_freeAmong_42 (by decide) (fun _ => rfl) (fun x4 => ?_)
        refine s_sub [1, 2, 3, 0, 4] rfl ?_
        exact X5_freeAmong_j43_ok ho hq_0_0 v1 v2 x4 v4 s0 s1
    · exact X5_freeAmong_j43_ok ho hq_0_0 v1 v2 v3 v4 s0 s1
def pX5_freeAmong (s0 : RS) (s1 : RS) (a0 : Int32) (a1 : Int32) : Option Int32 :=
  (a_loop (fun (q : Int32 × Int32) => X5_freeAmong_b5 a0 a1 q.1 q.2 s0 s1) FU ((0 : Int32), (0 : Int32))).bind fun (t5 : Int32) =>
    some t5
theorem pX5_freeAmong_w (ho : xok [(5, b0), (0, b1)] h.2.1) (hq_0_0 : f0 0 = some b1) (s0 : RS) (s1 : RS) (a0 : Int32) (a1 : Int32) : aS l 2 MX5_freeAmong n0 S0 (oΦ (fun (x : Int32) => ((some (.int x)), xw [(5, b0, f0, s0), (0, b1, f1, s1)] h))) 0 [(0, .ref b0), (1, .int a0), (2, .int a1)] [] (xw [(5, b0, f0, s0), (0, b1, f1, s1)] h) (pX5_freeAmong s0 s1 a0 a1) := by
  unfold pX5_freeAmong
  refine s_iconst (v := 0) (pc := 0) dX5_freeAmong_0 (by decide) ?_
  refine s_istore_n (lv' := [(3, .int 0), (0, .ref b0), (1, .int a0), (2, .int a1)]) (pc := 1) dX5_freeAmong_1 (by decide) rfl ?_
  refine s_iconst (v := 0) (pc := 2) dX5_freeAmong_2 (by decide) ?_
  refine s_istore (lv' := [(4, .int 0), (3, .int 0), (0, .ref b0), (1, .int a0), (2, .int a1)]) (pc := 3) dX5_freeAmong_3 (by decide) rfl ?_
  refine s_bind (Ψ := X5_freeAmong_x5 l n0 S0 h b0 b1 f0 f1 a0 a1 s0 s1) ?_ ?_
  · refine s_sub [2, 3, 4, 1, 0] rfl ?_
    exact s_loop (lvf := fun (q : Int32 × Int32) => [(0, .ref b0), (1, .int a0), (2, .int a1), (3, .int q.1), (4, .int q.2)]) (stf := fun _ => []) (hf := fun (q : Int32 × Int32) => xw [(5, b0, f0, s0), (0, b1, f1, s1)] h) (fun q => X5_freeAmong_b5_ok ho hq_0_0 a0 a1 q.1 q.2 s0 s1) FU ((0 : Int32), (0 : Int32))
  · intro t5 z r h' hz hr
    refine (?_ : aS l 2 MX5_freeAmong n0 S0 (oΦ (fun (x : Int32) => ((some (.int x)), xw [(5, b0, f0, s0), (0, b1, f1, s1)] h))) 49 [(3, .int t5)] [] (xw [(5, b0, f0, s0), (0, b1, f1, s1)] h) _) z hz r h' hr
    refine s_iload_n (pc := 49) 0 dX5_freeAmong_49 rfl ?_
    exact s_iret (pc := 50) dX5_freeAmong_50 rfl (fun _ _ q => q)
theorem pX5_freeAmong_ok (ho : xok [(5, b0), (0, b1)] h.2.1) (hq_0_0 : f0 0 = some b1) (s0 : RS) (s1 : RS) (a0 : Int32) (a1 : Int32) : ∀ x, pX5_freeAmong s0 s1 a0 a1 = some x → aMet l 2 yX5_freeAmong cX5_freeAmong 5 (some .int) [.ref b0, .int a0, .int a1] (xw [(5, b0, f0, s0), (0, b1, f1, s1)] h) (some (.int x)) (xw [(5, b0, f0, s0), (0, b1, f1, s1)] h) := fun x hx => a_meth (ini := false) (y := yX5_freeAmong) (by decide +kernel) (fun q => by cases q) (fun _ => Nat.le_of_ble_eq_true rfl) (pX5_freeAmong_w ho hq_0_0 s0 s1 a0 a1) x hx _ _ ⟨rfl, rfl⟩
end
