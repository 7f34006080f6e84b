section
variable {l : Launch} {n0 S0 : Nat} {h : aH}
abbrev MX5_places : aM := (cX5_places, RX5, 5, (some .long), false)
def X5_places_x5 (l : Launch) (n0 S0 : Nat) (h : aH) (v0 : Int32) (v1 : Int32) : Int64 → Option Value → aH → Prop := fun (x : Int64) r h' => aEv l 0 MX5_places n0 S0 25 [(2, .long x)] [] (h) r h'
def X5_places_b5 (v0 : Int32) (v1 : Int32) (v2 : Int64) (v4 : Int32) : Option ((Int64 × Int32) ⊕ Int64) :=
  if v1 ≤ v4 then
    some (.inr v2)
  else
    thn (v2 * (v0 - v4).toInt64) fun x2 =>
    thn (v4 + 1) fun x3 =>
    some (.inl (x2, x3))
theorem X5_places_b5_ok (v0 : Int32) (v1 : Int32) (v2 : Int64) (v4 : Int32) : aS l 0 MX5_places n0 S0 (a_LΦ (X5_places_x5 l n0 S0 h v0 v1) l 0 MX5_places n0 S0 5 (fun (q : Int64 × Int32) => [(0, .int v0), (1, .int v1), (2, .long q.1), (4, .int q.2)]) (fun _ => []) (fun (q : Int64 × Int32) => h)) 5 [(0, .int v0), (1, .int v1), (2, .long v2), (4, .int v4)] [] (h) (X5_places_b5 v0 v1 v2 v4) := by
  unfold X5_places_b5
  refine s_iload (pc := 5) 3 dX5_places_5 rfl ?_
  refine s_iload_n (pc := 7) 1 dX5_places_7 rfl ?_
  refine s_icmp_ge (tgt := 25) (pc := 8) dX5_places_8 (by decide) (fun _ => ?_) (fun _ => ?_)
  · refine s_sub [2] rfl ?_
    exact s_ev (fun _ _ q => q)
  · refine s_lload_n (pc := 11) 2 dX5_places_11 rfl ?_
    refine s_iload_n (pc := 12) 0 dX5_places_12 rfl ?_
    refine s_iload (pc := 13) 3 dX5_places_13 rfl ?_
    refine s_isub (pc := 15) dX5_places_15 ?_
    refine s_i2l (pc := 16) dX5_places_16 ?_
    refine s_lmul (pc := 17) dX5_places_17 ?_
    refine s_lstore_nT (lv' := fun x2 => [(2, .long x2), (0, .int v0), (1, .int v1), (4, .int v4)]) (pc := 18) dX5_places_18 (by decide) (fun _ => rfl) (fun x2 => ?_)
    refine s_iincT (pc := 19) 3 (lv' := fun x3 => [(4, .int x3), (2, .long x2), (0, .int v0), (1, .int v1)]) dX5_places_19 rfl rfl (by decide) (fun _ => rfl) (fun x3 => ?_)
    refine s_goto (tgt := 5) (pc := 22) dX5_places_22 (by decide) ?_
    refine s_sub [2, 3, 1, 0] rfl ?_
    exact s_ev (fun _ _ q => q)
def pX5_places (a0 : Int32) (a1 : Int32) : Option Int64 :=
  thn (1 : Int64) fun x1 =>
  (a_loop (fun (q : Int64 × Int32) => X5_places_b5 a0 a1 q.1 q.2) FU (x1, (0 : Int32))).bind fun (t4 : Int64) =>
    some t4
theorem pX5_places_w (a0 : Int32) (a1 : Int32) : aS l 0 MX5_places n0 S0 (oΦ (fun (x : Int64) => ((some (.long x)), h))) 0 [(0, .int a0), (1, .int a1)] [] (h) (pX5_places a0 a1) := by
  unfold pX5_places
  refine s_lconst (v := 1) (pc := 0) dX5_places_0 (by decide) ?_
  refine s_lstore_nT (lv' := fun x1 => [(2, .long x1), (0, .int a0), (1, .int a1)]) (pc := 1) dX5_places_1 (by decide) (fun _ => rfl) (fun x1 => ?_)
  refine s_iconst (v := 0) (pc := 2) dX5_places_2 (by decide) ?_
  refine s_istore (lv' := [(4, .int 0), (2, .long x1), (0, .int a0), (1, .int a1)]) (pc := 3) dX5_places_3 (by decide) rfl ?_
  refine s_bind (Ψ := X5_places_x5 l n0 S0 h a0 a1) ?_ ?_
  · refine s_sub [2, 3, 1, 0] rfl ?_
    exact s_loop (lvf := fun (q : Int64 × Int32) => [(0, .int a0), (1, .int a1), (2, .long q.1), (4, .int q.2)]) (stf := fun _ => []) (hf := fun (q : Int64 × Int32) => h) (fun q => X5_places_b5_ok a0 a1 q.1 q.2) FU (x1, (0 : Int32))
  · intro t4 z r h' hz hr
    refine (?_ : aS l 0 MX5_places n0 S0 (oΦ (fun (x : Int64) => ((some (.long x)), h))) 25 [(2, .long t4)] [] (h) _) z hz r h' hr
    refine s_lload_n (pc := 25) 0 dX5_places_25 rfl ?_
    exact s_lret (pc := 26) dX5_places_26 rfl (fun _ _ q => q)
theorem pX5_places_ok (a0 : Int32) (a1 : Int32) : ∀ x, pX5_places a0 a1 = some x → aMet l 0 yX5_places cX5_places 5 (some .long) [.int a0, .int a1] (h) (some (.long x)) (h) := fun x hx => a_meth (ini := false) (y := yX5_places) (by decide +kernel) (fun q => by cases q) (fun _ => Nat.le_of_ble_eq_true rfl) (pX5_places_w a0 a1) x hx _ _ ⟨rfl, rfl⟩
end
section
variable {l : Launch} {n0 S0 : Nat} {h : aH} {b0 b1 : Nat} {f0 f1 : Nat → Option Nat}
abbrev MX5_readyOnes : aM := (cX5_readyOnes, RX5, 4, (some .int), false)
def X5_readyOnes_x4 (l : Launch) (n0 S0 : Nat) (h : aH) (b0 : Nat) (b1 : Nat) (f0 : Nat → Option Nat) (f1 : Nat → Option Nat) (v1 : Int32) (s0 : RS) (s1 : RS) : Int32 → Option Value → aH → Prop := fun (x : Int32) r h' => aEv l 1 MX5_readyOnes n0 S0 51 [(2, .int x)] [] (xw [(5, b0, f0, s0), (0, b1, f1, s1)] h) r h'
def X5_readyOnes_j45 (v1 : Int32) (v2 : Int32) (v3 : Int32) (s0 : RS) (s1 : RS) : Option ((Int32 × Int32) ⊕ Int32) :=
  thn (v3 + 1) fun x2 =>
  some (.inl (v2, x2))
theorem X5_readyOnes_j45_ok (ho : xok [(5, b0), (0, b1)] h.2.1) (hq_0_0 : f0 0 = some b1) (v1 : Int32) (v2 : Int32) (v3 : Int32) (s0 : RS) (s1 : RS) : aS l 1 MX5_readyOnes n0 S0 (a_LΦ (X5_readyOnes_x4 l n0 S0 h b0 b1 f0 f1 v1 s0 s1) l 1 MX5_readyOnes n0 S0 4 (fun (q : Int32 × Int32) => [(0, .ref b0), (1, .int v1), (2, .int q.1), (3, .int q.2)]) (fun _ => []) (fun (q : Int32 × Int32) => xw [(5, b0, f0, s0), (0, b1, f1, s1)] h)) 45 [(0, .ref b0), (1, .int v1), (2, .int v2), (3, .int v3)] [] (xw [(5, b0, f0, s0), (0, b1, f1, s1)] h) (X5_readyOnes_j45 v1 v2 v3 s0 s1) := by
  unfold X5_readyOnes_j45
  refine s_iincT (pc := 45) 3 (lv' := fun x2 => [(3, .int x2), (0, .ref b0), (1, .int v1), (2, .int v2)]) dX5_readyOnes_45 rfl rfl (by decide) (fun _ => rfl) (fun x2 => ?_)
  refine s_goto (tgt := 4) (pc := 48) dX5_readyOnes_48 (by decide) ?_
  refine s_sub [1, 2, 3, 0] rfl ?_
  exact s_ev (fun _ _ q => q)
def X5_readyOnes_b4 (v1 : Int32) (v2 : Int32) (v3 : Int32) (s0 : RS) (s1 : RS) : Option ((Int32 × Int32) ⊕ Int32) :=
  if (s1.1 1) ≤ v3 then
    some (.inr v2)
  else
    (pX0_isIn ((s0.1 1) &&& (v1 ^^^ (-1 : Int32))) v3).bind fun x1 =>
    if x1 = true then
      (pX5_isReady s0 s1 v3 v1).bind fun x3 =>
      if x3 = true then
        thn (v2 ||| ((1 : Int32) <<< (v3 &&& 31))) fun x4 =>
        X5_readyOnes_j45 v1 x4 v3 s0 s1
      else
        X5_readyOnes_j45 v1 v2 v3 s0 s1
    else
      X5_readyOnes_j45 v1 v2 v3 s0 s1
theorem X5_readyOnes_b4_ok (ho : xok [(5, b0), (0, b1)] h.2.1) (hq_0_0 : f0 0 = some b1) (v1 : Int32) (v2 : Int32) (v3 : Int32) (s0 : RS) (s1 : RS) : aS l 1 MX5_readyOnes n0 S0 (a_LΦ (X5_readyOnes_x4 l n0 S0 h b0 b1 f0 f1 v1 s0 s1) l 1 MX5_readyOnes n0 S0 4 (fun (q : Int32 × Int32) => [(0, .ref b0), (1, .int v1), (2, .int q.1), (3, .int q.2)]) (fun _ => []) (fun (q : Int32 × Int32) => xw [(5, b0, f0, s0), (0, b1, f1, s1)] h)) 4 [(0, .ref b0), (1, .int v1), (2, .int v2), (3, .int v3)] [] (xw [(5, b0, f0, s0), (0, b1, f1, s1)] h) (X5_readyOnes_b4 v1 v2 v3 s0 s1) := by
  unfold X5_readyOnes_b4
  refine s_iload_n (pc := 4) 3 dX5_readyOnes_4 rfl ?_
  refine s_aload_n (pc := 5) 0 dX5_readyOnes_5 rfl ?_
  refine xg_X5_14 0 ho rfl (pc := 6) dX5_readyOnes_6 rfl hq_0_0 ?_
  refine xg_X5_40 1 ho rfl (pc := 9) dX5_readyOnes_9 rfl ?_
  refine s_icmp_ge (tgt := 51) (pc := 12) dX5_readyOnes_12 (by decide) (fun _ => ?_) (fun _ => ?_)
  · refine s_sub [2] rfl ?_
    exact s_ev (fun _ _ q => q)
  · refine s_aload_n (pc := 15) 0 dX5_readyOnes_15 rfl ?_
    refine xg_X5_18 0 ho rfl (pc := 16) dX5_readyOnes_16 rfl ?_
    refine s_iload_n (pc := 19) 1 dX5_readyOnes_19 rfl ?_
    refine s_iconst (v := (-1)) (pc := 20) dX5_readyOnes_20 (by decide) ?_
    refine s_ixor (pc := 21) dX5_readyOnes_21 ?_
    refine s_iand (pc := 22) dX5_readyOnes_22 ?_
    refine s_iload_n (pc := 23) 3 dX5_readyOnes_23 rfl ?_
    refine s_callS (M := MX5_readyOnes) (As := [.int ((s0.1 1) &&& (v1 ^^^ (-1 : Int32))), .int v3]) (st := []) (Ψ := fun (x : Bool) => (some (.int (b2i x)), xw [(5, b0, f0, s0), (0, b1, f1, s1)] h)) cs_X5_54 (by decide) (pc := 24) dX5_readyOnes_24 rfl (Nat.le_of_ble_eq_true rfl) (fun x hx => pX0_isIn_ok ((s0.1 1) &&& (v1 ^^^ (-1 : Int32))) v3 x hx) rfl (fun x1 _ => ?_)
    refine s_if_eqB (tgt := 45) (pc := 27) dX5_readyOnes_27 (by decide) (fun _ => ?_) (fun _ => ?_)
    · refine s_aload_n (pc := 30) 0 dX5_readyOnes_30 rfl ?_
      refine s_iload_n (pc := 31) 3 dX5_readyOnes_31 rfl ?_
      refine s_iload_n (pc := 32) 1 dX5_readyOnes_32 rfl ?_
      refine x_callV (M := MX5_readyOnes) (L := [(5, b0, f0, s0), (0, b1, f1, s1)]) (h := h) (j := 0) (As := [.int v3, .int v1]) (st := []) (A := fun (x : Bool) => some (.int (b2i x))) (Lc := [(5, b0, f0, s0), (0, b1, f1, s1)]) (Lr := fun (x : Bool) => [(5, b0, f0, s0), (0, b1, f1, s1)]) (L2 := fun (x : Bool) => [(5, b0, f0, s0), (0, b1, f1, s1)]) cv_X5_80 (by decide) (pc := 33) dX5_readyOnes_33 ho rfl xc0_5 rfl rfl (Nat.le_of_ble_eq_true rfl) (xovs (L := [(5, b0, f0, s0), (0, b1, f1, s1)]) (h := h) [(0, (5, b0, f0, s0)), (1, (0, b1, f1, s1))] ho ⟨rfl, rfl, trivial⟩).1 (fun x => (xovs (L := [(5, b0, f0, s0), (0, b1, f1, s1)]) (h := h) [(0, (5, b0, f0, s0)), (1, (0, b1, f1, s1))] ho ⟨rfl, rfl, trivial⟩).1) (fun x hx => pX5_isReady_ok (h := xw [(5, b0, f0, s0), (0, b1, f1, s1)] h) (f0 := f0) (f1 := f1) (xok_sub ho [0, 1] rfl (by decide)) hq_0_0 s0 s1 v3 v1 x hx) rfl (fun x3 _ => ?_)
      refine s_if_eqB (tgt := 45) (pc := 36) dX5_readyOnes_36 (by decide) (fun _ => ?_) (fun _ => ?_)
      · refine s_iload_n (pc := 39) 2 dX5_readyOnes_39 rfl ?_
        refine s_iconst (v := 1) (pc := 40) dX5_readyOnes_40 (by decide) ?_
        refine s_iload_n (pc := 41) 3 dX5_readyOnes_41 rfl ?_
        refine s_ishl (pc := 42) dX5_readyOnes_42 ?_
        refine s_ior (pc := 43) dX5_readyOnes_43 ?_
        refine s_istore_nT (lv' := fun x4 => [(2, .int x4), (0, .ref b0), (1, .int v1), (3, .int v3)]) (pc := 44) dX5_readyOnes_44 (by decide) (fun _ => rfl) (fun x4 => ?_)
        refine s_sub [1, 2, 0, 3] rfl ?_
        exact X5_readyOnes_j45_ok ho hq_0_0 v1 x4 v3 s0 s1
      · exact X5_readyOnes_j45_ok ho hq_0_0 v1 v2 v3 s0 s1
    · exact X5_readyOnes_j45_ok ho hq_0_0 v1 v2 v3 s0 s1
def pX5_readyOnes (s0 : RS) (s1 : RS) (a0 : Int32) : Option Int32 :=
  (a_loop (fun (q : Int32 × Int32) => X5_readyOnes_b4 a0 q.1 q.2 s0 s1) FU ((0 : Int32), (0 : Int32))).bind fun (t5 : Int32) =>
    some t5
theorem pX5_readyOnes_w (ho : xok [(5, b0), (0, b1)] h.2.1) (hq_0_0 : f0 0 = some b1) (s0 : RS) (s1 : RS) (a0 : Int32) : aS l 1 MX5_readyOnes n0 S0 (oΦ (fun (x : Int32) => ((some (.int x)), xw [(5, b0, f0, s0), (0, b1, f1, s1)] h))) 0 [(0, .ref b0), (1, .int a0)] [] (xw [(5, b0, f0, s0), (0, b1, f1, s1)] h) (pX5_readyOnes s0 s1 a0) := by
  unfold pX5_readyOnes
  refine s_iconst (v := 0) (pc := 0) dX5_readyOnes_0 (by decide) ?_
  refine s_istore_n (lv' := [(2, .int 0), (0, .ref b0), (1, .int a0)]) (pc := 1) dX5_readyOnes_1 (by decide) rfl ?_
  refine s_iconst (v := 0) (pc := 2) dX5_readyOnes_2 (by decide) ?_
  refine s_istore_n (lv' := [(3, .int 0), (2, .int 0), (0, .ref b0), (1, .int a0)]) (pc := 3) dX5_readyOnes_3 (by decide) rfl ?_
  refine s_bind (Ψ := X5_readyOnes_x4 l n0 S0 h b0 b1 f0 f1 a0 s0 s1) ?_ ?_
  · refine s_sub [2, 3, 1, 0] rfl ?_
    exact s_loop (lvf := fun (q : Int32 × Int32) => [(0, .ref b0), (1, .int a0), (2, .int q.1), (3, .int q.2)]) (stf := fun _ => []) (hf := fun (q : Int32 × Int32) => xw [(5, b0, f0, s0), (0, b1, f1, s1)] h) (fun q => X5_readyOnes_b4_ok ho hq_0_0 a0 q.1 q.2 s0 s1) FU ((0 : Int32), (0 : Int32))
  · intro t5 z r h' hz hr
    refine (?_ : aS l 1 MX5_readyOnes n0 S0 (oΦ (fun (x : Int32) => ((some (.int x)), xw [(5, b0, f0, s0), (0, b1, f1, s1)] h))) 51 [(2, .int t5)] [] (xw [(5, b0, f0, s0), (0, b1, f1, s1)] h) _) z hz r h' hr
    refine s_iload_n (pc := 51) 0 dX5_readyOnes_51 rfl ?_
    exact s_iret (pc := 52) dX5_readyOnes_52 rfl (fun _ _ q => q)
theorem pX5_readyOnes_ok (ho : xok [(5, b0), (0, b1)] h.2.1) (hq_0_0 : f0 0 = some b1) (s0 : RS) (s1 : RS) (a0 : Int32) : ∀ x, pX5_readyOnes s0 s1 a0 = some x → aMet l 1 yX5_readyOnes cX5_readyOnes 4 (some .int) [.ref b0, .int a0] (xw [(5, b0, f0, s0), (0, b1, f1, s1)] h) (some (.int x)) (xw [(5, b0, f0, s0), (0, b1, f1, s1)] h) := fun x hx => a_meth (ini := false) (y := yX5_readyOnes) (by decide +kernel) (fun q => by cases q) (fun _ => Nat.le_of_ble_eq_true rfl) (pX5_readyOnes_w ho hq_0_0 s0 s1 a0) x hx _ _ ⟨rfl, rfl⟩
end
section
variable {l : Launch} {n0 S0 : Nat} {h : aH} {b0 b1 b2 : Nat} {f0 f1 f2 : Nat → Option Nat} {dr : Nat}
abbrev MX5_sumOver : aM := (cX5_sumOver, RX5, 7, (some .long), false)
def X5_sumOver_x6 (l : Launch) (n0 S0 : Nat) (dr : Nat) (h : aH) (b0 : Nat) (b1 : Nat) (b2 : Nat) (f0 : Nat → Option Nat) (f1 : Nat → Option Nat) (f2 : Nat → Option Nat) (v1 : Int32) (v2 : Int32) (v3 : Int32) (s0 : RS) (s1 : RS) : (Int64 × RS) → Option Value → aH → Prop := fun (x : Int64 × RS) r h' => aEv l (dr + 1) MX5_sumOver n0 S0 51 [(4, .long x.1)] [] (xw [(5, b0, f0, s0), (0, b1, f1, s1), (12, b2, f2, x.2)] h) r h'
def X5_sumOver_j45 (rc : RS → RS → RS → Int32 → Int32 → Option (Int64 × RS)) (v1 : Int32) (v2 : Int32) (v3 : Int32) (v4 : Int64) (v6 : Int32) (s0 : RS) (s1 : RS) (s2 : RS) : Option ((Int64 × Int32 × RS) ⊕ (Int64 × RS)) :=
  thn (v6 + 1) fun x3 =>
  some (.inl (v4, x3, s2))
theorem X5_sumOver_j45_ok (ho : xok [(5, b0), (0, b1), (12, b2)] h.2.1) (hq_0_0 : f0 0 = some b1) (hq_0_5 : f0 5 = some b2) {rc : RS → RS → RS → Int32 → Int32 → Option (Int64 × RS)} (hrc : ∀ (h : aH), xok [(5, b0), (0, b1), (12, b2)] h.2.1 → ∀ (s0 : RS) (s1 : RS) (s2 : RS) (a0 : Int32) (a1 : Int32)  x, rc s0 s1 s2 a0 a1 = some x → aMet l dr yX5_waysBehind cX5_waysBehind 8 (some .long) [.ref b0, .int a0, .int a1] (xw [(5, b0, f0, s0), (0, b1, f1, s1), (12, b2, f2, s2)] h) (some (.long x.1)) (xw [(5, b0, f0, s0), (0, b1, f1, s1), (12, b2, f2, x.2)] h)) (v1 : Int32) (v2 : Int32) (v3 : Int32) (v4 : Int64) (v6 : Int32) (s0 : RS) (s1 : RS) (s2 : RS) : aS l (dr + 1) MX5_sumOver n0 S0 (a_LΦ (X5_sumOver_x6 l n0 S0 dr h b0 b1 b2 f0 f1 f2 v1 v2 v3 s0 s1) l (dr + 1) MX5_sumOver n0 S0 6 (fun (q : Int64 × Int32 × RS) => [(0, .ref b0), (1, .int v1), (2, .int v2), (3, .int v3), (4, .long q.1), (6, .int q.2.1)]) (fun _ => []) (fun (q : Int64 × Int32 × RS) => xw [(5, b0, f0, s0), (0, b1, f1, s1), (12, b2, f2, q.2.2)] h)) 45 [(0, .ref b0), (1, .int v1), (2, .int v2), (3, .int v3), (4, .long v4), (6, .int v6)] [] (xw [(5, b0, f0, s0), (0, b1, f1, s1), (12, b2, f2, s2)] h) (X5_sumOver_j45 rc v1 v2 v3 v4 v6 s0 s1 s2) := by
  unfold X5_sumOver_j45
  refine s_iincT (pc := 45) 5 (lv' := fun x3 => [(6, .int x3), (0, .ref b0), (1, .int v1), (2, .int v2), (3, .int v3), (4, .long v4)]) dX5_sumOver_45 rfl rfl (by decide) (fun _ => rfl) (fun x3 => ?_)
  refine s_goto (tgt := 6) (pc := 48) dX5_sumOver_48 (by decide) ?_
  refine s_sub [1, 2, 3, 4, 5, 0] rfl ?_
  exact s_ev (fun _ _ q => q)
def X5_sumOver_b6 (rc : RS → RS → RS → Int32 → Int32 → Option (Int64 × RS)) (v1 : Int32) (v2 : Int32) (v3 : Int32) (v4 : Int64) (v6 : Int32) (s0 : RS) (s1 : RS) (s2 : RS) : Option ((Int64 × Int32 × RS) ⊕ (Int64 × RS)) :=
  if (s1.1 1) ≤ v6 then
    some (.inr (v4, s2))
  else
    (pX0_isIn v1 v6).bind fun x2 =>
    if x2 = true then
      (rc s0 s1 s2 (v2 ||| ((1 : Int32) <<< (v6 &&& 31))) (v3 + (1 : Int32))).bind fun x4 =>
      thn (v4 + x4.1) fun x5 =>
      X5_sumOver_j45 rc v1 v2 v3 x5 v6 s0 s1 x4.2
    else
      X5_sumOver_j45 rc v1 v2 v3 v4 v6 s0 s1 s2
theorem X5_sumOver_b6_ok (ho : xok [(5, b0), (0, b1), (12, b2)] h.2.1) (hq_0_0 : f0 0 = some b1) (hq_0_5 : f0 5 = some b2) {rc : RS → RS → RS → Int32 → Int32 → Option (Int64 × RS)} (hrc : ∀ (h : aH), xok [(5, b0), (0, b1), (12, b2)] h.2.1 → ∀ (s0 : RS) (s1 : RS) (s2 : RS) (a0 : Int32) (a1 : Int32)  x, rc s0 s1 s2 a0 a1 = some x → aMet l dr yX5_waysBehind cX5_waysBehind 8 (some .long) [.ref b0, .int a0, .int a1] (xw [(5, b0, f0, s0), (0, b1, f1, s1), (12, b2, f2, s2)] h) (some (.long x.1)) (xw [(5, b0, f0, s0), (0, b1, f1, s1), (12, b2, f2, x.2)] h)) (v1 : Int32) (v2 : Int32) (v3 : Int32) (v4 : Int64) (v6 : Int32) (s0 : RS) (s1 : RS) (s2 : RS) : aS l (dr + 1) MX5_sumOver n0 S0 (a_LΦ (X5_sumOver_x6 l n0 S0 dr h b0 b1 b2 f0 f1 f2 v1 v2 v3 s0 s1) l (dr + 1) MX5_sumOver n0 S0 6 (fun (q : Int64 × Int32 × RS) => [(0, .ref b0), (1, .int v1), (2, .int v2), (3, .int v3), (4, .long q.1), (6, .int q.2.1)]) (fun _ => []) (fun (q : Int64 × Int32 × RS) => xw [(5, b0, f0, s0), (0, b1, f1, s1), (12, b2, f2, q.2.2)] h)) 6 [(0, .ref b0), (1, .int v1), (2, .int v2), (3, .int v3), (4, .long v4), (6, .int v6)] [] (xw [(5, b0, f0, s0), (0, b1, f1, s1), (12, b2, f2, s2)] h) (X5_sumOver_b6 rc v1 v2 v3 v4 v6 s0 s1 s2) := by
  unfold X5_sumOver_b6
  refine s_iload (pc := 6) 5 dX5_sumOver_6 rfl ?_
  refine s_aload_n (pc := 8) 0 dX5_sumOver_8 rfl ?_
  refine xg_X5_14 0 ho rfl (pc := 9) dX5_sumOver_9 rfl hq_0_0 ?_
  refine xg_X5_40 1 ho rfl (pc := 12) dX5_sumOver_12 rfl ?_
  refine s_icmp_ge (tgt := 51) (pc := 15) dX5_sumOver_15 (by decide) (fun _ => ?_) (fun _ => ?_)
  · refine s_sub [4] rfl ?_
    exact s_ev (fun _ _ q => q)
  · refine s_iload_n (pc := 18) 1 dX5_sumOver_18 rfl ?_
    refine s_iload (pc := 19) 5 dX5_sumOver_19 rfl ?_
    refine s_callS (M := MX5_sumOver) (As := [.int v1, .int v6]) (st := []) (Ψ := fun (x : Bool) => (some (.int (b2i x)), xw [(5, b0, f0, s0), (0, b1, f1, s1), (12, b2, f2, s2)] h)) cs_X5_54 (by omega) (pc := 21) dX5_sumOver_21 rfl (Nat.le_of_ble_eq_true rfl) (fun x hx => pX0_isIn_ok v1 v6 x hx) rfl (fun x2 _ => ?_)
    refine s_if_eqB (tgt := 45) (pc := 24) dX5_sumOver_24 (by decide) (fun _ => ?_) (fun _ => ?_)
    · refine s_lload (pc := 27) 4 dX5_sumOver_27 rfl ?_
      refine s_aload_n (pc := 29) 0 dX5_sumOver_29 rfl ?_
      refine s_iload_n (pc := 30) 2 dX5_sumOver_30 rfl ?_
      refine s_iconst (v := 1) (pc := 31) dX5_sumOver_31 (by decide) ?_
      refine s_iload (pc := 32) 5 dX5_sumOver_32 rfl ?_
      refine s_ishl (pc := 34) dX5_sumOver_34 ?_
      refine s_ior (pc := 35) dX5_sumOver_35 ?_
      refine s_iload_n (pc := 36) 3 dX5_sumOver_36 rfl ?_
      refine s_iconst (v := 1) (pc := 37) dX5_sumOver_37 (by decide) ?_
      refine s_iadd (pc := 38) dX5_sumOver_38 ?_
      refine x_callV (M := MX5_sumOver) (L := [(5, b0, f0, s0), (0, b1, f1, s1), (12, b2, f2, s2)]) (h := h) (j := 0) (As := [.int (v2 ||| ((1 : Int32) <<< (v6 &&& 31))), .int (v3 + (1 : Int32))]) (st := [.long v4]) (A := fun (x : Int64 × RS) => some (.long x.1)) (Lc := [(5, b0, f0, s0), (0, b1, f1, s1), (12, b2, f2, s2)]) (Lr := fun (x : Int64 × RS) => [(5, b0, f0, s0), (0, b1, f1, s1), (12, b2, f2, x.2)]) (L2 := fun (x : Int64 × RS) => [(5, b0, f0, s0), (0, b1, f1, s1), (12, b2, f2, x.2)]) cv_X5_43 (by omega) (pc := 39) dX5_sumOver_39 ho rfl xc0_5 rfl rfl (Nat.le_of_ble_eq_true rfl) (xovs (L := [(5, b0, f0, s0), (0, b1, f1, s1), (12, b2, f2, s2)]) (h := h) [(0, (5, b0, f0, s0)), (1, (0, b1, f1, s1)), (2, (12, b2, f2, s2))] ho ⟨rfl, rfl, rfl, trivial⟩).1 (fun x => (xovs (L := [(5, b0, f0, s0), (0, b1, f1, s1), (12, b2, f2, s2)]) (h := h) [(0, (5, b0, f0, s0)), (1, (0, b1, f1, s1)), (2, (12, b2, f2, x.2))] ho ⟨rfl, rfl, rfl, trivial⟩).1) (fun x hx => hrc (xw [(5, b0, f0, s0), (0, b1, f1, s1), (12, b2, f2, s2)] h) (xok_sub ho [0, 1, 2] rfl (by decide)) s0 s1 s2 (v2 ||| ((1 : Int32) <<< (v6 &&& 31))) (v3 + (1 : Int32)) x hx) rfl (fun x4 _ => ?_)
      refine s_ladd (pc := 42) dX5_sumOver_42 ?_
      refine s_lstoreT (lv' := fun x5 => [(4, .long x5), (0, .ref b0), (1, .int v1), (2, .int v2), (3, .int v3), (6, .int v6)]) (pc := 43) dX5_sumOver_43 (by decide) (fun _ => rfl) (fun x5 => ?_)
      refine s_sub [1, 2, 3, 4, 0, 5] rfl ?_
      exact X5_sumOver_j45_ok ho hq_0_0 hq_0_5 hrc v1 v2 v3 x5 v6 s0 s1 x4.2
    · exact X5_sumOver_j45_ok ho hq_0_0 hq_0_5 hrc v1 v2 v3 v4 v6 s0 s1 s2
def pX5_sumOver (rc : RS → RS → RS → Int32 → Int32 → Option (Int64 × RS)) (s0 : RS) (s1 : RS) (s2 : RS) (a0 : Int32) (a1 : Int32) (a2 : Int32) : Option (Int64 × RS) :=
  thn (0 : Int64) fun x1 =>
  (a_loop (fun (q : Int64 × Int32 × RS) => X5_sumOver_b6 rc a0 a1 a2 q.1 q.2.1 s0 s1 q.2.2) FU (x1, (0 : Int32), s2)).bind fun (t6 : Int64 × RS) =>
    some (t6.1, t6.2)
theorem pX5_sumOver_w (ho : xok [(5, b0), (0, b1), (12, b2)] h.2.1) (hq_0_0 : f0 0 = some b1) (hq_0_5 : f0 5 = some b2) {rc : RS → RS → RS → Int32 → Int32 → Option (Int64 × RS)} (hrc : ∀ (h : aH), xok [(5, b0), (0, b1), (12, b2)] h.2.1 → ∀ (s0 : RS) (s1 : RS) (s2 : RS) (a0 : Int32) (a1 : Int32)  x, rc s0 s1 s2 a0 a1 = some x → aMet l dr yX5_waysBehind cX5_waysBehind 8 (some .long) [.ref b0, .int a0, .int a1] (xw [(5, b0, f0, s0), (0, b1, f1, s1), (12, b2, f2, s2)] h) (some (.long x.1)) (xw [(5, b0, f0, s0), (0, b1, f1, s1), (12, b2, f2, x.2)] h)) (s0 : RS) (s1 : RS) (s2 : RS) (a0 : Int32) (a1 : Int32) (a2 : Int32) : aS l (dr + 1) MX5_sumOver n0 S0 (oΦ (fun (x : Int64 × RS) => ((some (.long x.1)), xw [(5, b0, f0, s0), (0, b1, f1, s1), (12, b2, f2, x.2)] h))) 0 [(0, .ref b0), (1, .int a0), (2, .int a1), (3, .int a2)] [] (xw [(5, b0, f0, s0), (0, b1, f1, s1), (12, b2, f2, s2)] h) (pX5_sumOver rc s0 s1 s2 a0 a1 a2) := by
  unfold pX5_sumOver
  refine s_lconst (v := 0) (pc := 0) dX5_sumOver_0 (by decide) ?_
  refine s_lstoreT (lv' := fun x1 => [(4, .long x1), (0, .ref b0), (1, .int a0), (2, .int a1), (3, .int a2)]) (pc := 1) dX5_sumOver_1 (by decide) (fun _ => rfl) (fun x1 => ?_)
  refine s_iconst (v := 0) (pc := 3) dX5_sumOver_3 (by decide) ?_
  refine s_istore (lv' := [(6, .int 0), (4, .long x1), (0, .ref b0), (1, .int a0), (2, .int a1), (3, .int a2)]) (pc := 4) dX5_sumOver_4 (by decide) rfl ?_
  refine s_bind (Ψ := X5_sumOver_x6 l n0 S0 dr h b0 b1 b2 f0 f1 f2 a0 a1 a2 s0 s1) ?_ ?_
  · refine s_sub [2, 3, 4, 5, 1, 0] rfl ?_
    exact s_loop (lvf := fun (q : Int64 × Int32 × RS) => [(0, .ref b0), (1, .int a0), (2, .int a1), (3, .int a2), (4, .long q.1), (6, .int q.2.1)]) (stf := fun _ => []) (hf := fun (q : Int64 × Int32 × RS) => xw [(5, b0, f0, s0), (0, b1, f1, s1), (12, b2, f2, q.2.2)] h) (fun q => X5_sumOver_b6_ok ho hq_0_0 hq_0_5 hrc a0 a1 a2 q.1 q.2.1 s0 s1 q.2.2) FU (x1, (0 : Int32), s2)
  · intro t6 z r h' hz hr
    refine (?_ : aS l (dr + 1) MX5_sumOver n0 S0 (oΦ (fun (x : Int64 × RS) => ((some (.long x.1)), xw [(5, b0, f0, s0), (0, b1, f1, s1), (12, b2, f2, x.2)] h))) 51 [(4, .long t6.1)] [] (xw [(5, b0, f0, s0), (0, b1, f1, s1), (12, b2, f2, t6.2)] h) _) z hz r h' hr
    refine s_lload (pc := 51) 0 dX5_sumOver_51 rfl ?_
    exact s_lret (pc := 53) dX5_sumOver_53 rfl (fun _ _ q => q)
theorem pX5_sumOver_ok (ho : xok [(5, b0), (0, b1), (12, b2)] h.2.1) (hq_0_0 : f0 0 = some b1) (hq_0_5 : f0 5 = some b2) {rc : RS → RS → RS → Int32 → Int32 → Option (Int64 × RS)} (hrc : ∀ (h : aH), xok [(5, b0), (0, b1), (12, b2)] h.2.1 → ∀ (s0 : RS) (s1 : RS) (s2 : RS) (a0 : Int32) (a1 : Int32)  x, rc s0 s1 s2 a0 a1 = some x → aMet l dr yX5_waysBehind cX5_waysBehind 8 (some .long) [.ref b0, .int a0, .int a1] (xw [(5, b0, f0, s0), (0, b1, f1, s1), (12, b2, f2, s2)] h) (some (.long x.1)) (xw [(5, b0, f0, s0), (0, b1, f1, s1), (12, b2, f2, x.2)] h)) (s0 : RS) (s1 : RS) (s2 : RS) (a0 : Int32) (a1 : Int32) (a2 : Int32) : ∀ x, pX5_sumOver rc s0 s1 s2 a0 a1 a2 = some x → aMet l (dr + 1) yX5_sumOver cX5_sumOver 7 (some .long) [.ref b0, .int a0, .int a1, .int a2] (xw [(5, b0, f0, s0), (0, b1, f1, s1), (12, b2, f2, s2)] h) (some (.long x.1)) (xw [(5, b0, f0, s0), (0, b1, f1, s1), (12, b2, f2, x.2)] h) := fun x hx => a_meth (ini := false) (y := yX5_sumOver) (by decide +kernel) (fun q => by cases q) (fun _ => Nat.le_of_ble_eq_true rfl) (pX5_sumOver_w ho hq_0_0 hq_0_5 hrc s0 s1 s2 a0 a1 a2) x hx _ _ ⟨rfl, rfl⟩
end
section
variable {l : Launch} {n0 S0 : Nat} {h : aH} {b0 b1 b2 : Nat} {f0 f1 f2 : Nat → Option Nat} {dr : Nat}
abbrev MX5_waysBehind : aM := (cX5_waysBehind, RX5, 8, (some .long), false)
def X5_waysBehind_j135 (rc : RS → RS → RS → Int32 → Int32 → Option (Int64 × RS)) (v1 : Int32) (v5 : Int64) (s0 : RS) (s1 : RS) (s2 : RS) : Option (Int64 × RS) :=
  g_in v1 (s2.1 0).toNatClampNeg (thn (uB s2 0 (vp_updL (s2.2.2.2 0) v1.toNatClampNeg (((s0.1 4).toInt64 <<< ((45 : Int32).toInt64 &&& 63)) ||| v5))) fun s_4 =>
  some (v5, s_4))
theorem X5_waysBehind_j135_ok (ho : xok [(5, b0), (0, b1), (12, b2)] h.2.1) (hq_0_0 : f0 0 = some b1) (hq_0_5 : f0 5 = some b2) {rc : RS → RS → RS → Int32 → Int32 → Option (Int64 × RS)} (hrc : ∀ (h : aH), xok [(5, b0), (0, b1), (12, b2)] h.2.1 → ∀ (s0 : RS) (s1 : RS) (s2 : RS) (a0 : Int32) (a1 : Int32)  x, rc s0 s1 s2 a0 a1 = some x → aMet l dr yX5_waysBehind cX5_waysBehind 8 (some .long) [.ref b0, .int a0, .int a1] (xw [(5, b0, f0, s0), (0, b1, f1, s1), (12, b2, f2, s2)] h) (some (.long x.1)) (xw [(5, b0, f0, s0), (0, b1, f1, s1), (12, b2, f2, x.2)] h)) (v1 : Int32) (v5 : Int64) (s0 : RS) (s1 : RS) (s2 : RS) : aS l (dr + 3) MX5_waysBehind n0 S0 (oΦ (fun (x : Int64 × RS) => ((some (.long x.1)), xw [(5, b0, f0, s0), (0, b1, f1, s1), (12, b2, f2, x.2)] h))) 135 [(0, .ref b0), (1, .int v1), (5, .long v5)] [] (xw [(5, b0, f0, s0), (0, b1, f1, s1), (12, b2, f2, s2)] h) (X5_waysBehind_j135 rc v1 v5 s0 s1 s2) := by
  unfold X5_waysBehind_j135
  refine s_aload_n (pc := 135) 0 dX5_waysBehind_135 rfl ?_
  refine xg_X5_31 0 ho rfl (pc := 136) dX5_waysBehind_136 rfl hq_0_5 ?_
  refine s_iload_n (pc := 139) 1 dX5_waysBehind_139 rfl ?_
  refine s_aload_n (pc := 140) 0 dX5_waysBehind_140 rfl ?_
  refine xg_X5_28 0 ho rfl (pc := 141) dX5_waysBehind_141 rfl ?_
  refine s_i2l (pc := 144) dX5_waysBehind_144 ?_
  refine s_bipush (v := 45) (pc := 145) dX5_waysBehind_145 (by decide) ?_
  refine s_lshl (pc := 147) dX5_waysBehind_147 ?_
  refine s_lload (pc := 148) 2 dX5_waysBehind_148 rfl ?_
  refine s_lor (pc := 150) dX5_waysBehind_150 ?_
  refine xs_12_0 (L' := fun s_4 => [(5, b0, f0, s0), (0, b1, f1, s1), (12, b2, f2, s_4)]) 2 ho rfl (fun _ => rfl) (pc := 151) dX5_waysBehind_151 (fun s_4 => ?_)
  refine s_lload (pc := 152) 2 dX5_waysBehind_152 rfl ?_
  exact s_lret (pc := 154) dX5_waysBehind_154 rfl (fun _ _ q => q)
def pX5_waysBehind_f (rc : RS → RS → RS → Int32 → Int32 → Option (Int64 × RS)) (s0 : RS) (s1 : RS) (s2 : RS) (a0 : Int32) (a1 : Int32) : Option (Int64 × RS) :=
  if a0 = (s0.1 1) then
    some ((1 : Int64), s2)
  else
    if (16 : Int32) < a1 then
      some ((0 : Int64), s2)
    else
      if a0 < 0 then
        some ((0 : Int64), s2)
      else
        if a0 < (Int32.ofNat (s2.1 0).toNatClampNeg) then
          g_in a0 (s2.1 0).toNatClampNeg (
          if ((s2.2.2.2 0 a0.toNatClampNeg) >>> ((45 : Int32).toInt64 &&& 63)) = (s0.1 4).toInt64 then
            g_in a0 (s2.1 0).toNatClampNeg (
            some (((s2.2.2.2 0 a0.toNatClampNeg) &&& (35184372088831 : Int64)), s2))
          else
            (pX5_readyOnes s0 s1 a0).bind fun x1 =>
            (pX5_freeAmong s0 s1 x1 ((s0.1 1) &&& (a0 ^^^ (-1 : Int32)))).bind fun x2 =>
            if x2 = 0 then
              (pX5_sumOver rc s0 s1 s2 x1 a0 a1).bind fun x3 =>
              X5_waysBehind_j135 rc a0 x3.1 s0 s1 x3.2
            else
              (pJ6_bitCount_0f7a4 ((s0.1 1) &&& (a0 ^^^ (-1 : Int32)))).bind fun x5 =>
              (rc s0 s1 s2 (a0 ||| x2) (a1 + (1 : Int32))).bind fun x6 =>
              (pJ6_bitCount_0f7a4 x2).bind fun x7 =>
              (pX5_places x5 x7).bind fun x8 =>
              thn (x6.1 * x8) fun x9 =>
              X5_waysBehind_j135 rc a0 x9 s0 s1 x6.2)
        else
          some ((0 : Int64), s2)
theorem pX5_waysBehind_f_w (ho : xok [(5, b0), (0, b1), (12, b2)] h.2.1) (hq_0_0 : f0 0 = some b1) (hq_0_5 : f0 5 = some b2) {rc : RS → RS → RS → Int32 → Int32 → Option (Int64 × RS)} (hrc : ∀ (h : aH), xok [(5, b0), (0, b1), (12, b2)] h.2.1 → ∀ (s0 : RS) (s1 : RS) (s2 : RS) (a0 : Int32) (a1 : Int32)  x, rc s0 s1 s2 a0 a1 = some x → aMet l dr yX5_waysBehind cX5_waysBehind 8 (some .long) [.ref b0, .int a0, .int a1] (xw [(5, b0, f0, s0), (0, b1, f1, s1), (12, b2, f2, s2)] h) (some (.long x.1)) (xw [(5, b0, f0, s0), (0, b1, f1, s1), (12, b2, f2, x.2)] h)) (s0 : RS) (s1 : RS) (s2 : RS) (a0 : Int32) (a1 : Int32) : aS l (dr + 3) MX5_waysBehind n0 S0 (oΦ (fun (x : Int64 × RS) => ((some (.long x.1)), xw [(5, b0, f0, s0), (0, b1, f1, s1), (12, b2, f2, x.2)] h))) 0 [(0, .ref b0), (1, .int a0), (2, .int a1)] [] (xw [(5, b0, f0, s0), (0, b1, f1, s1), (12, b2, f2, s2)] h) (pX5_waysBehind_f rc s0 s1 s2 a0 a1) := by
  unfold pX5_waysBehind_f
  refine s_iload_n (pc := 0) 1 dX5_waysBehind_0 rfl ?_
  refine s_aload_n (pc := 1) 0 dX5_waysBehind_1 rfl ?_
  refine xg_X5_18 0 ho rfl (pc := 2) dX5_waysBehind_2 rfl ?_
  refine s_icmp_ne (tgt := 10) (pc := 5) dX5_waysBehind_5 (by decide) (fun _ => ?_) (fun _ => ?_)
  · refine s_lconst (v := 1) (pc := 8) dX5_waysBehind_8 (by decide) ?_
    exact s_lret (pc := 9) dX5_waysBehind_9 rfl (fun _ _ q => q)
  · refine s_iload_n (pc := 10) 2 dX5_waysBehind_10 rfl ?_
    refine s_bipush (v := 16) (pc := 11) dX5_waysBehind_11 (by decide) ?_
    refine s_icmp_gt (tgt := 29) (pc := 13) dX5_waysBehind_13 (by decide) (fun _ => ?_) (fun _ => ?_)
    · refine s_lconst (v := 0) (pc := 29) dX5_waysBehind_29 (by decide) ?_
      exact s_lret (pc := 30) dX5_waysBehind_30 rfl (fun _ _ q => q)
    · refine s_iload_n (pc := 16) 1 dX5_waysBehind_16 rfl ?_
      refine s_if_lt (tgt := 29) (pc := 17) dX5_waysBehind_17 (by decide) (fun _ => ?_) (fun _ => ?_)
      · refine s_lconst (v := 0) (pc := 29) dX5_waysBehind_29 (by decide) ?_
        exact s_lret (pc := 30) dX5_waysBehind_30 rfl (fun _ _ q => q)
      · refine s_iload_n (pc := 20) 1 dX5_waysBehind_20 rfl ?_
        refine s_aload_n (pc := 21) 0 dX5_waysBehind_21 rfl ?_
        refine xg_X5_31 0 ho rfl (pc := 22) dX5_waysBehind_22 rfl hq_0_5 ?_
        refine xn_12_0 2 ho rfl (pc := 25) dX5_waysBehind_25 ?_
        refine s_icmp_lt (tgt := 31) (pc := 26) dX5_waysBehind_26 (by decide) (fun _ => ?_) (fun _ => ?_)
        · refine s_aload_n (pc := 31) 0 dX5_waysBehind_31 rfl ?_
          refine xg_X5_31 0 ho rfl (pc := 32) dX5_waysBehind_32 rfl hq_0_5 ?_
          refine s_iload_n (pc := 35) 1 dX5_waysBehind_35 rfl ?_
          refine xl_12_0 2 ho rfl (pc := 36) dX5_waysBehind_36 ?_
          refine s_bipush (v := 45) (pc := 37) dX5_waysBehind_37 (by decide) ?_
          refine s_lshr (pc := 39) dX5_waysBehind_39 ?_
          refine s_aload_n (pc := 40) 0 dX5_waysBehind_40 rfl ?_
          refine xg_X5_28 0 ho rfl (pc := 41) dX5_waysBehind_41 rfl ?_
          refine s_i2l (pc := 44) dX5_waysBehind_44 ?_
          refine s_lcmp (pc := 45) dX5_waysBehind_45 ?_
          refine s_ifL (lg_cmp_z _ _) (s_if_ne (tgt := 60) (pc := 46) dX5_waysBehind_46 (by decide) (fun _ => ?_) (fun _ => ?_))
          · refine s_aload_n (pc := 49) 0 dX5_waysBehind_49 rfl ?_
            refine xg_X5_31 0 ho rfl (pc := 50) dX5_waysBehind_50 rfl hq_0_5 ?_
            refine s_iload_n (pc := 53) 1 dX5_waysBehind_53 rfl ?_
            refine xl_12_0 2 ho rfl (pc := 54) dX5_waysBehind_54 ?_
            refine s_ldc2 (v := 35184372088831) (pc := 55) dX5_waysBehind_55 wk_X5_58 ?_
            refine s_land (pc := 58) dX5_waysBehind_58 ?_
            exact s_lret (pc := 59) dX5_waysBehind_59 rfl (fun _ _ q => q)
          · refine s_aload_n (pc := 60) 0 dX5_waysBehind_60 rfl ?_
            refine s_iload_n (pc := 61) 1 dX5_waysBehind_61 rfl ?_
            refine x_callV (M := MX5_waysBehind) (L := [(5, b0, f0, s0), (0, b1, f1, s1), (12, b2, f2, s2)]) (h := h) (j := 0) (As := [.int a0]) (st := []) (A := fun (x : Int32) => some (.int x)) (Lc := [(5, b0, f0, s0), (0, b1, f1, s1)]) (Lr := fun (x : Int32) => [(5, b0, f0, s0), (0, b1, f1, s1)]) (L2 := fun (x : Int32) => [(5, b0, f0, s0), (0, b1, f1, s1), (12, b2, f2, s2)]) cv_X5_60 (by omega) (pc := 62) dX5_waysBehind_62 ho rfl xc0_5 rfl rfl (Nat.le_of_ble_eq_true rfl) (xovs (L := [(5, b0, f0, s0), (0, b1, f1, s1), (12, b2, f2, s2)]) (h := h) [(0, (5, b0, f0, s0)), (1, (0, b1, f1, s1))] ho ⟨rfl, rfl, trivial⟩).1 (fun x => (xovs (L := [(5, b0, f0, s0), (0, b1, f1, s1), (12, b2, f2, s2)]) (h := h) [(0, (5, b0, f0, s0)), (1, (0, b1, f1, s1))] ho ⟨rfl, rfl, trivial⟩).1) (fun x hx => pX5_readyOnes_ok (h := xw [(5, b0, f0, s0), (0, b1, f1, s1), (12, b2, f2, s2)] h) (f0 := f0) (f1 := f1) (xok_sub ho [0, 1] rfl (by decide)) hq_0_0 s0 s1 a0 x hx) rfl (fun x1 _ => ?_)
            refine s_istore_n (lv' := [(3, .int x1), (0, .ref b0), (1, .int a0), (2, .int a1)]) (pc := 65) dX5_waysBehind_65 (by decide) rfl ?_
            refine s_aload_n (pc := 66) 1 dX5_waysBehind_66 rfl ?_
            refine s_iload_n (pc := 67) 0 dX5_waysBehind_67 rfl ?_
            refine s_aload_n (pc := 68) 1 dX5_waysBehind_68 rfl ?_
            refine xg_X5_18 0 ho rfl (pc := 69) dX5_waysBehind_69 rfl ?_
            refine s_iload_n (pc := 72) 2 dX5_waysBehind_72 rfl ?_
            refine s_iconst (v := (-1)) (pc := 73) dX5_waysBehind_73 (by decide) ?_
            refine s_ixor (pc := 74) dX5_waysBehind_74 ?_
            refine s_iand (pc := 75) dX5_waysBehind_75 ?_
            refine x_callV (M := MX5_waysBehind) (L := [(5, b0, f0, s0), (0, b1, f1, s1), (12, b2, f2, s2)]) (h := h) (j := 0) (As := [.int x1, .int ((s0.1 1) &&& (a0 ^^^ (-1 : Int32)))]) (st := []) (A := fun (x : Int32) => some (.int x)) (Lc := [(5, b0, f0, s0), (0, b1, f1, s1)]) (Lr := fun (x : Int32) => [(5, b0, f0, s0), (0, b1, f1, s1)]) (L2 := fun (x : Int32) => [(5, b0, f0, s0), (0, b1, f1, s1), (12, b2, f2, s2)]) cv_X5_64 (by omega) (pc := 76) dX5_waysBehind_76 ho rfl xc0_5 rfl rfl (Nat.le_of_ble_eq_true rfl) (xovs (L := [(5, b0, f0, s0), (0, b1, f1, s1), (12, b2, f2, s2)]) (h := h) [(0, (5, b0, f0, s0)), (1, (0, b1, f1, s1))] ho ⟨rfl, rfl, trivial⟩).1 (fun x => (xovs (L := [(5, b0, f0, s0), (0, b1, f1, s1), (12, b2, f2, s2)]) (h := h) [(0, (5, b0, f0, s0)), (1, (0, b1, f1, s1))] ho ⟨rfl, rfl, trivial⟩).1) (fun x hx => pX5_freeAmong_ok (h := xw [(5, b0, f0, s0), (0, b1, f1, s1), (12, b2, f2, s2)] h) (f0 := f0) (f1 := f1) (xok_sub ho [0, 1] rfl (by decide)) hq_0_0 s0 s1 x1 ((s0.1 1) &&& (a0 ^^^ (-1 : Int32))) x hx) rfl (fun x2 _ => ?_)
            refine s_istore (lv' := [(4, .int x2), (3, .int x1), (0, .ref b0), (1, .int a0), (2, .int a1)]) (pc := 79) dX5_waysBehind_79 (by decide) rfl ?_
            refine s_iload (pc := 81) 0 dX5_waysBehind_81 rfl ?_
            refine s_if_eq (tgt := 126) (pc := 83) dX5_waysBehind_83 (by decide) (fun _ => ?_) (fun _ => ?_)
            · refine s_aload_n (pc := 126) 2 dX5_waysBehind_126 rfl ?_
              refine s_iload_n (pc := 127) 1 dX5_waysBehind_127 rfl ?_
              refine s_iload_n (pc := 128) 3 dX5_waysBehind_128 rfl ?_
              refine s_iload_n (pc := 129) 4 dX5_waysBehind_129 rfl ?_
              refine x_callV (M := MX5_waysBehind) (L := [(5, b0, f0, s0), (0, b1, f1, s1), (12, b2, f2, s2)]) (h := h) (j := 0) (As := [.int x1, .int a0, .int a1]) (st := []) (A := fun (x : Int64 × RS) => some (.long x.1)) (Lc := [(5, b0, f0, s0), (0, b1, f1, s1), (12, b2, f2, s2)]) (Lr := fun (x : Int64 × RS) => [(5, b0, f0, s0), (0, b1, f1, s1), (12, b2, f2, x.2)]) (L2 := fun (x : Int64 × RS) => [(5, b0, f0, s0), (0, b1, f1, s1), (12, b2, f2, x.2)]) cv_X5_76 (by omega) (pc := 130) dX5_waysBehind_130 ho rfl xc0_5 rfl rfl (Nat.le_of_ble_eq_true rfl) (xovs (L := [(5, b0, f0, s0), (0, b1, f1, s1), (12, b2, f2, s2)]) (h := h) [(0, (5, b0, f0, s0)), (1, (0, b1, f1, s1)), (2, (12, b2, f2, s2))] ho ⟨rfl, rfl, rfl, trivial⟩).1 (fun x => (xovs (L := [(5, b0, f0, s0), (0, b1, f1, s1), (12, b2, f2, s2)]) (h := h) [(0, (5, b0, f0, s0)), (1, (0, b1, f1, s1)), (2, (12, b2, f2, x.2))] ho ⟨rfl, rfl, rfl, trivial⟩).1) (fun x hx => pX5_sumOver_ok (h := xw [(5, b0, f0, s0), (0, b1, f1, s1), (12, b2, f2, s2)] h) (f0 := f0) (f1 := f1) (f2 := f2) (xok_sub ho [0, 1, 2] rfl (by decide)) hq_0_0 hq_0_5 hrc s0 s1 s2 x1 a0 a1 x hx) rfl (fun x3 _ => ?_)
              refine s_lstore (lv' := [(5, .long x3.1), (4, .int x2), (3, .int x1), (0, .ref b0), (1, .int a0), (2, .int a1)]) (pc := 133) dX5_waysBehind_133 (by decide) rfl ?_
              refine s_sub [3, 4, 0] rfl ?_
              exact X5_waysBehind_j135_ok ho hq_0_0 hq_0_5 hrc a0 x3.1 s0 s1 x3.2
            · refine s_aload_n (pc := 86) 2 dX5_waysBehind_86 rfl ?_
              refine xg_X5_18 0 ho rfl (pc := 87) dX5_waysBehind_87 rfl ?_
              refine s_iload_n (pc := 90) 3 dX5_waysBehind_90 rfl ?_
              refine s_iconst (v := (-1)) (pc := 91) dX5_waysBehind_91 (by decide) ?_
              refine s_ixor (pc := 92) dX5_waysBehind_92 ?_
              refine s_iand (pc := 93) dX5_waysBehind_93 ?_
              refine s_callS (M := MX5_waysBehind) (As := [.int ((s0.1 1) &&& (a0 ^^^ (-1 : Int32)))]) (st := []) (Ψ := fun (x : Int32) => (some (.int x), xw [(5, b0, f0, s0), (0, b1, f1, s1), (12, b2, f2, s2)] h)) cs_X5_68 (by omega) (pc := 94) dX5_waysBehind_94 rfl (Nat.le_of_ble_eq_true rfl) (fun x hx => pJ6_bitCount_0f7a4_ok ((s0.1 1) &&& (a0 ^^^ (-1 : Int32))) x hx) rfl (fun x5 _ => ?_)
              refine s_istore (lv' := [(7, .int x5), (4, .int x2), (3, .int x1), (0, .ref b0), (1, .int a0), (2, .int a1)]) (pc := 97) dX5_waysBehind_97 (by decide) rfl ?_
              refine s_aload_n (pc := 99) 3 dX5_waysBehind_99 rfl ?_
              refine s_iload_n (pc := 100) 4 dX5_waysBehind_100 rfl ?_
              refine s_iload (pc := 101) 1 dX5_waysBehind_101 rfl ?_
              refine s_ior (pc := 103) dX5_waysBehind_103 ?_
              refine s_iload_n (pc := 104) 5 dX5_waysBehind_104 rfl ?_
              refine s_iconst (v := 1) (pc := 105) dX5_waysBehind_105 (by decide) ?_
              refine s_iadd (pc := 106) dX5_waysBehind_106 ?_
              refine x_callV (M := MX5_waysBehind) (L := [(5, b0, f0, s0), (0, b1, f1, s1), (12, b2, f2, s2)]) (h := h) (j := 0) (As := [.int (a0 ||| x2), .int (a1 + (1 : Int32))]) (st := []) (A := fun (x : Int64 × RS) => some (.long x.1)) (Lc := [(5, b0, f0, s0), (0, b1, f1, s1), (12, b2, f2, s2)]) (Lr := fun (x : Int64 × RS) => [(5, b0, f0, s0), (0, b1, f1, s1), (12, b2, f2, x.2)]) (L2 := fun (x : Int64 × RS) => [(5, b0, f0, s0), (0, b1, f1, s1), (12, b2, f2, x.2)]) cv_X5_43 (by omega) (pc := 107) dX5_waysBehind_107 ho rfl xc0_5 rfl rfl (Nat.le_of_ble_eq_true rfl) (xovs (L := [(5, b0, f0, s0), (0, b1, f1, s1), (12, b2, f2, s2)]) (h := h) [(0, (5, b0, f0, s0)), (1, (0, b1, f1, s1)), (2, (12, b2, f2, s2))] ho ⟨rfl, rfl, rfl, trivial⟩).1 (fun x => (xovs (L := [(5, b0, f0, s0), (0, b1, f1, s1), (12, b2, f2, s2)]) (h := h) [(0, (5, b0, f0, s0)), (1, (0, b1, f1, s1)), (2, (12, b2, f2, x.2))] ho ⟨rfl, rfl, rfl, trivial⟩).1) (fun x hx => hrc (xw [(5, b0, f0, s0), (0, b1, f1, s1), (12, b2, f2, s2)] h) (xok_sub ho [0, 1, 2] rfl (by decide)) s0 s1 s2 (a0 ||| x2) (a1 + (1 : Int32)) x hx) rfl (fun x6 _ => ?_)
              refine s_iload (pc := 110) 0 dX5_waysBehind_110 rfl ?_
              refine s_iload (pc := 112) 1 dX5_waysBehind_112 rfl ?_
              refine s_callS (M := MX5_waysBehind) (As := [.int x2]) (st := [.int x5, .long x6.1]) (Ψ := fun (x : Int32) => (some (.int x), xw [(5, b0, f0, s0), (0, b1, f1, s1), (12, b2, f2, x6.2)] h)) cs_X5_68 (by omega) (pc := 114) dX5_waysBehind_114 rfl (Nat.le_of_ble_eq_true rfl) (fun x hx => pJ6_bitCount_0f7a4_ok x2 x hx) rfl (fun x7 _ => ?_)
              refine s_callS (M := MX5_waysBehind) (As := [.int x5, .int x7]) (st := [.long x6.1]) (Ψ := fun (x : Int64) => (some (.long x), xw [(5, b0, f0, s0), (0, b1, f1, s1), (12, b2, f2, x6.2)] h)) cs_X5_73 (by omega) (pc := 117) dX5_waysBehind_117 rfl (Nat.le_of_ble_eq_true rfl) (fun x hx => pX5_places_ok x5 x7 x hx) rfl (fun x8 _ => ?_)
              refine s_lmul (pc := 120) dX5_waysBehind_120 ?_
              refine s_lstoreT (lv' := fun x9 => [(5, .long x9), (7, .int x5), (4, .int x2), (3, .int x1), (0, .ref b0), (1, .int a0), (2, .int a1)]) (pc := 121) dX5_waysBehind_121 (by decide) (fun _ => rfl) (fun x9 => ?_)
              refine s_goto (tgt := 135) (pc := 123) dX5_waysBehind_123 (by decide) ?_
              refine s_sub [4, 5, 0] rfl ?_
              exact X5_waysBehind_j135_ok ho hq_0_0 hq_0_5 hrc a0 x9 s0 s1 x6.2
        · refine s_lconst (v := 0) (pc := 29) dX5_waysBehind_29 (by decide) ?_
          exact s_lret (pc := 30) dX5_waysBehind_30 rfl (fun _ _ q => q)
theorem pX5_waysBehind_f_ok (ho : xok [(5, b0), (0, b1), (12, b2)] h.2.1) (hq_0_0 : f0 0 = some b1) (hq_0_5 : f0 5 = some b2) {rc : RS → RS → RS → Int32 → Int32 → Option (Int64 × RS)} (hrc : ∀ (h : aH), xok [(5, b0), (0, b1), (12, b2)] h.2.1 → ∀ (s0 : RS) (s1 : RS) (s2 : RS) (a0 : Int32) (a1 : Int32)  x, rc s0 s1 s2 a0 a1 = some x → aMet l dr yX5_waysBehind cX5_waysBehind 8 (some .long) [.ref b0, .int a0, .int a1] (xw [(5, b0, f0, s0), (0, b1, f1, s1), (12, b2, f2, s2)] h) (some (.long x.1)) (xw [(5, b0, f0, s0), (0, b1, f1, s1), (12, b2, f2, x.2)] h)) (s0 : RS) (s1 : RS) (s2 : RS) (a0 : Int32) (a1 : Int32) : ∀ x, pX5_waysBehind_f rc s0 s1 s2 a0 a1 = some x → aMet l (dr + 3) yX5_waysBehind cX5_waysBehind 8 (some .long) [.ref b0, .int a0, .int a1] (xw [(5, b0, f0, s0), (0, b1, f1, s1), (12, b2, f2, s2)] h) (some (.long x.1)) (xw [(5, b0, f0, s0), (0, b1, f1, s1), (12, b2, f2, x.2)] h) := fun x hx => a_meth (ini := false) (y := yX5_waysBehind) (by decide +kernel) (fun q => by cases q) (fun _ => Nat.le_of_ble_eq_true rfl) (pX5_waysBehind_f_w ho hq_0_0 hq_0_5 hrc s0 s1 s2 a0 a1) x hx _ _ ⟨rfl, rfl⟩
def pX5_waysBehind : Nat → RS → RS → RS → Int32 → Int32 → Option (Int64 × RS)
  | 0 => fun _ _ _ _ _ => none
  | n + 1 => fun s0 s1 s2 a0 a1 => pX5_waysBehind_f (pX5_waysBehind n) s0 s1 s2 a0 a1
theorem pX5_waysBehind_okr (hq_0_0 : f0 0 = some b1) (hq_0_5 : f0 5 = some b2) : ∀ (n : Nat) (h : aH), xok [(5, b0), (0, b1), (12, b2)] h.2.1 → ∀ (s0 : RS) (s1 : RS) (s2 : RS) (a0 : Int32) (a1 : Int32) x, pX5_waysBehind n s0 s1 s2 a0 a1 = some x → aMet l (3 * n) yX5_waysBehind cX5_waysBehind 8 (some .long) [.ref b0, .int a0, .int a1] (xw [(5, b0, f0, s0), (0, b1, f1, s1), (12, b2, f2, s2)] h) (some (.long x.1)) (xw [(5, b0, f0, s0), (0, b1, f1, s1), (12, b2, f2, x.2)] h)
  | 0 => fun _ _ _ _ _ _ _ x hx => by cases hx
  | n + 1 => fun h ho s0 s1 s2 a0 a1 x hx => by
    have := pX5_waysBehind_f_ok (dr := 3 * n) ho hq_0_0 hq_0_5 (fun h1 ho1 => pX5_waysBehind_okr hq_0_0 hq_0_5 n h1 ho1) s0 s1 s2 a0 a1 x hx
    exact this
theorem pX5_waysBehind_ok (ho : xok [(5, b0), (0, b1), (12, b2)] h.2.1) (hq_0_0 : f0 0 = some b1) (hq_0_5 : f0 5 = some b2) : ∀ (n : Nat) (s0 : RS) (s1 : RS) (s2 : RS) (a0 : Int32) (a1 : Int32) x, pX5_waysBehind n s0 s1 s2 a0 a1 = some x → aMet l (3 * n) yX5_waysBehind cX5_waysBehind 8 (some .long) [.ref b0, .int a0, .int a1] (xw [(5, b0, f0, s0), (0, b1, f1, s1), (12, b2, f2, s2)] h) (some (.long x.1)) (xw [(5, b0, f0, s0), (0, b1, f1, s1), (12, b2, f2, x.2)] h) := fun n => pX5_waysBehind_okr hq_0_0 hq_0_5 n h ho
end
section
variable {l : Launch} {n0 S0 : Nat} {h : aH} {b0 b1 b2 b3 : Nat} {f0 f1 f2 f3 : Nat → Option Nat}
abbrev MX5_writeOrder : aM := (cX5_writeOrder, RX5, 13, (some .int), false)
def X5_writeOrder_x21 (l : Launch) (n0 S0 : Nat) (h : aH) (b0 : Nat) (b1 : Nat) (b2 : Nat) (b3 : Nat) (f0 : Nat → Option Nat) (f1 : Nat → Option Nat) (f2 : Nat → Option Nat) (f3 : Nat → Option Nat) (v8 : Int32) (s0 : RS) (s1 : RS) : (Int32 × RS × RS) → Option Value → aH → Prop := fun (x : Int32 × RS × RS) r h' => aEv l 61 MX5_writeOrder n0 S0 140 [(5, .int x.1)] [] (xw [(5, b0, f0, s0), (0, b1, f1, s1), (12, b2, f2, x.2.1), (7, b3, f3, x.2.2)] h) r h'
def X5_writeOrder_x38 (l : Launch) (n0 S0 : Nat) (h : aH) (b0 : Nat) (b1 : Nat) (b2 : Nat) (b3 : Nat) (f0 : Nat → Option Nat) (f1 : Nat → Option Nat) (f2 : Nat → Option Nat) (f3 : Nat → Option Nat) (v4 : Int32) (v5 : Int32) (v8 : Int32) (v9 : Int32) (s0 : RS) (s1 : RS) (s3 : RS) : ((Int64 × Int32 × RS) ⊕ (Int64 × RS)) → Option Value → aH → Prop := Sum.elim (fun (x : Int64 × Int32 × RS) (r : Option Value) (h' : aH) => aEv l 61 MX5_writeOrder n0 S0 100 [(0, .ref b0), (3, .ref (b3 + 16)), (4, .int v4), (5, .int v5), (6, .long x.1), (8, .int v8), (9, .int v9), (10, .int x.2.1)] [] (xw [(5, b0, f0, s0), (0, b1, f1, s1), (12, b2, f2, x.2.2), (7, b3, f3, s3)] h) r h') (fun (x : Int64 × RS) (r : Option Value) (h' : aH) => aEv l 61 MX5_writeOrder n0 S0 134 [(0, .ref b0), (3, .ref (b3 + 16)), (4, .int v4), (5, .int v5), (6, .long x.1), (8, .int v8), (9, .int v9)] [] (xw [(5, b0, f0, s0), (0, b1, f1, s1), (12, b2, f2, x.2), (7, b3, f3, s3)] h) r h')
def X5_writeOrder_j128 (v4 : Int32) (v5 : Int32) (v6 : Int64) (v8 : Int32) (v9 : Int32) (v10 : Int32) (s0 : RS) (s1 : RS) (s2 : RS) (s3 : RS) : Option ((Int64 × Int32 × RS) ⊕ ((Int64 × Int32 × RS) ⊕ (Int64 × RS))) :=
  thn (v10 + 1) fun x3 =>
  some (.inl (v6, x3, s2))
theorem X5_writeOrder_j128_ok (ho : xok [(5, b0), (0, b1), (12, b2), (7, b3)] h.2.1) (hq_0_0 : f0 0 = some b1) (hq_0_5 : f0 5 = some b2) (v4 : Int32) (v5 : Int32) (v6 : Int64) (v8 : Int32) (v9 : Int32) (v10 : Int32) (s0 : RS) (s1 : RS) (s2 : RS) (s3 : RS) : aS l 61 MX5_writeOrder n0 S0 (a_LΦ (X5_writeOrder_x38 l n0 S0 h b0 b1 b2 b3 f0 f1 f2 f3 v4 v5 v8 v9 s0 s1 s3) l 61 MX5_writeOrder n0 S0 38 (fun (q : Int64 × Int32 × RS) => [(0, .ref b0), (3, .ref (b3 + 16)), (4, .int v4), (5, .int v5), (6, .long q.1), (8, .int v8), (9, .int v9), (10, .int q.2.1)]) (fun _ => []) (fun (q : Int64 × Int32 × RS) => xw [(5, b0, f0, s0), (0, b1, f1, s1), (12, b2, f2, q.2.2), (7, b3, f3, s3)] h)) 128 [(0, .ref b0), (3, .ref (b3 + 16)), (4, .int v4), (5, .int v5), (6, .long v6), (8, .int v8), (9, .int v9), (10, .int v10)] [] (xw [(5, b0, f0, s0), (0, b1, f1, s1), (12, b2, f2, s2), (7, b3, f3, s3)] h) (X5_writeOrder_j128 v4 v5 v6 v8 v9 v10 s0 s1 s2 s3) := by
  unfold X5_writeOrder_j128
  refine s_iincT (pc := 128) 7 (lv' := fun x3 => [(10, .int x3), (0, .ref b0), (3, .ref (b3 + 16)), (4, .int v4), (5, .int v5), (6, .long v6), (8, .int v8), (9, .int v9)]) dX5_writeOrder_128 rfl rfl (by decide) (fun _ => rfl) (fun x3 => ?_)
  refine s_goto (tgt := 38) (pc := 131) dX5_writeOrder_131 (by decide) ?_
  refine s_sub [1, 2, 3, 4, 5, 6, 7, 0] rfl ?_
  exact s_ev (fun _ _ q => q)
def X5_writeOrder_b38 (v4 : Int32) (v5 : Int32) (v8 : Int32) (v9 : Int32) (v6 : Int64) (v10 : Int32) (s0 : RS) (s1 : RS) (s2 : RS) (s3 : RS) : Option ((Int64 × Int32 × RS) ⊕ ((Int64 × Int32 × RS) ⊕ (Int64 × RS))) :=
  if (s1.1 1) ≤ v10 then
    some (.inr (.inr (v6, s2)))
  else
    (pX0_isIn ((s0.1 1) &&& (v4 ^^^ (-1 : Int32))) v10).bind fun x2 =>
    if x2 = true then
      (pX5_isReady s0 s1 v10 v4).bind fun x4 =>
      if x4 = true then
        (pX5_waysBehind 20 s0 s1 s2 (v4 ||| ((1 : Int32) <<< (v10 &&& 31))) (0 : Int32)).bind fun x5 =>
        if x5.1 ≤ v6 then
          thn (v6 - x5.1) fun x6 =>
          X5_writeOrder_j128 v4 v5 x6 v8 v9 v10 s0 s1 x5.2 s3
        else
          some (.inr (.inl (v6, v10, x5.2)))
      else
        X5_writeOrder_j128 v4 v5 v6 v8 v9 v10 s0 s1 s2 s3
    else
      X5_writeOrder_j128 v4 v5 v6 v8 v9 v10 s0 s1 s2 s3
theorem X5_writeOrder_b38_ok (ho : xok [(5, b0), (0, b1), (12, b2), (7, b3)] h.2.1) (hq_0_0 : f0 0 = some b1) (hq_0_5 : f0 5 = some b2) (v4 : Int32) (v5 : Int32) (v8 : Int32) (v9 : Int32) (v6 : Int64) (v10 : Int32) (s0 : RS) (s1 : RS) (s2 : RS) (s3 : RS) : aS l 61 MX5_writeOrder n0 S0 (a_LΦ (X5_writeOrder_x38 l n0 S0 h b0 b1 b2 b3 f0 f1 f2 f3 v4 v5 v8 v9 s0 s1 s3) l 61 MX5_writeOrder n0 S0 38 (fun (q : Int64 × Int32 × RS) => [(0, .ref b0), (3, .ref (b3 + 16)), (4, .int v4), (5, .int v5), (6, .long q.1), (8, .int v8), (9, .int v9), (10, .int q.2.1)]) (fun _ => []) (fun (q : Int64 × Int32 × RS) => xw [(5, b0, f0, s0), (0, b1, f1, s1), (12, b2, f2, q.2.2), (7, b3, f3, s3)] h)) 38 [(0, .ref b0), (3, .ref (b3 + 16)), (4, .int v4), (5, .int v5), (6, .long v6), (8, .int v8), (9, .int v9), (10, .int v10)] [] (xw [(5, b0, f0, s0), (0, b1, f1, s1), (12, b2, f2, s2), (7, b3, f3, s3)] h) (X5_writeOrder_b38 v4 v5 v8 v9 v6 v10 s0 s1 s2 s3) := by
  unfold X5_writeOrder_b38
  refine s_iload (pc := 38) 7 dX5_writeOrder_38 rfl ?_
  refine s_aload_n (pc := 40) 0 dX5_writeOrder_40 rfl ?_
  refine xg_X5_14 0 ho rfl (pc := 41) dX5_writeOrder_41 rfl hq_0_0 ?_
  refine xg_X5_40 1 ho rfl (pc := 44) dX5_writeOrder_44 rfl ?_
  refine s_icmp_ge (tgt := 134) (pc := 47) dX5_writeOrder_47 (by decide) (fun _ => ?_) (fun _ => ?_)
  · refine s_sub [0, 1, 2, 3, 4, 5, 6] rfl ?_
    exact s_ev (fun _ _ q => q)
  · refine s_aload_n (pc := 50) 0 dX5_writeOrder_50 rfl ?_
    refine xg_X5_18 0 ho rfl (pc := 51) dX5_writeOrder_51 rfl ?_
    refine s_iload (pc := 54) 2 dX5_writeOrder_54 rfl ?_
    refine s_iconst (v := (-1)) (pc := 56) dX5_writeOrder_56 (by decide) ?_
    refine s_ixor (pc := 57) dX5_writeOrder_57 ?_
    refine s_iand (pc := 58) dX5_writeOrder_58 ?_
    refine s_iload (pc := 59) 7 dX5_writeOrder_59 rfl ?_
    refine s_callS (M := MX5_writeOrder) (As := [.int ((s0.1 1) &&& (v4 ^^^ (-1 : Int32))), .int v10]) (st := []) (Ψ := fun (x : Bool) => (some (.int (b2i x)), xw [(5, b0, f0, s0), (0, b1, f1, s1), (12, b2, f2, s2), (7, b3, f3, s3)] h)) cs_X5_54 (by decide) (pc := 61) dX5_writeOrder_61 rfl (Nat.le_of_ble_eq_true rfl) (fun x hx => pX0_isIn_ok ((s0.1 1) &&& (v4 ^^^ (-1 : Int32))) v10 x hx) rfl (fun x2 _ => ?_)
    refine s_if_eqB (tgt := 128) (pc := 64) dX5_writeOrder_64 (by decide) (fun _ => ?_) (fun _ => ?_)
    · refine s_aload_n (pc := 67) 0 dX5_writeOrder_67 rfl ?_
      refine s_iload (pc := 68) 7 dX5_writeOrder_68 rfl ?_
      refine s_iload (pc := 70) 2 dX5_writeOrder_70 rfl ?_
      refine x_callV (M := MX5_writeOrder) (L := [(5, b0, f0, s0), (0, b1, f1, s1), (12, b2, f2, s2), (7, b3, f3, s3)]) (h := h) (j := 0) (As := [.int v10, .int v4]) (st := []) (A := fun (x : Bool) => some (.int (b2i x))) (Lc := [(5, b0, f0, s0), (0, b1, f1, s1)]) (Lr := fun (x : Bool) => [(5, b0, f0, s0), (0, b1, f1, s1)]) (L2 := fun (x : Bool) => [(5, b0, f0, s0), (0, b1, f1, s1), (12, b2, f2, s2), (7, b3, f3, s3)]) cv_X5_80 (by decide) (pc := 72) dX5_writeOrder_72 ho rfl xc0_5 rfl rfl (Nat.le_of_ble_eq_true rfl) (xovs (L := [(5, b0, f0, s0), (0, b1, f1, s1), (12, b2, f2, s2), (7, b3, f3, s3)]) (h := h) [(0, (5, b0, f0, s0)), (1, (0, b1, f1, s1))] ho ⟨rfl, rfl, trivial⟩).1 (fun x => (xovs (L := [(5, b0, f0, s0), (0, b1, f1, s1), (12, b2, f2, s2), (7, b3, f3, s3)]) (h := h) [(0, (5, b0, f0, s0)), (1, (0, b1, f1, s1))] ho ⟨rfl, rfl, trivial⟩).1) (fun x hx => pX5_isReady_ok (h := xw [(5, b0, f0, s0), (0, b1, f1, s1), (12, b2, f2, s2), (7, b3, f3, s3)] h) (f0 := f0) (f1 := f1) (xok_sub ho [0, 1] rfl (by decide)) hq_0_0 s0 s1 v10 v4 x hx) rfl (fun x4 _ => ?_)
      refine s_if_eqB (tgt := 128) (pc := 75) dX5_writeOrder_75 (by decide) (fun _ => ?_) (fun _ => ?_)
      · refine s_aload_n (pc := 78) 0 dX5_writeOrder_78 rfl ?_
        refine s_iload (pc := 79) 2 dX5_writeOrder_79 rfl ?_
        refine s_iconst (v := 1) (pc := 81) dX5_writeOrder_81 (by decide) ?_
        refine s_iload (pc := 82) 7 dX5_writeOrder_82 rfl ?_
        refine s_ishl (pc := 84) dX5_writeOrder_84 ?_
        refine s_ior (pc := 85) dX5_writeOrder_85 ?_
        refine s_iconst (v := 0) (pc := 86) dX5_writeOrder_86 (by decide) ?_
        refine x_callV (M := MX5_writeOrder) (L := [(5, b0, f0, s0), (0, b1, f1, s1), (12, b2, f2, s2), (7, b3, f3, s3)]) (h := h) (j := 0) (As := [.int (v4 ||| ((1 : Int32) <<< (v10 &&& 31))), .int 0]) (st := []) (A := fun (x : Int64 × RS) => some (.long x.1)) (Lc := [(5, b0, f0, s0), (0, b1, f1, s1), (12, b2, f2, s2)]) (Lr := fun (x : Int64 × RS) => [(5, b0, f0, s0), (0, b1, f1, s1), (12, b2, f2, x.2)]) (L2 := fun (x : Int64 × RS) => [(5, b0, f0, s0), (0, b1, f1, s1), (12, b2, f2, x.2), (7, b3, f3, s3)]) cv_X5_43 (by decide) (pc := 87) dX5_writeOrder_87 ho rfl xc0_5 rfl rfl (Nat.le_of_ble_eq_true rfl) (xovs (L := [(5, b0, f0, s0), (0, b1, f1, s1), (12, b2, f2, s2), (7, b3, f3, s3)]) (h := h) [(0, (5, b0, f0, s0)), (1, (0, b1, f1, s1)), (2, (12, b2, f2, s2))] ho ⟨rfl, rfl, rfl, trivial⟩).1 (fun x => (xovs (L := [(5, b0, f0, s0), (0, b1, f1, s1), (12, b2, f2, s2), (7, b3, f3, s3)]) (h := h) [(0, (5, b0, f0, s0)), (1, (0, b1, f1, s1)), (2, (12, b2, f2, x.2))] ho ⟨rfl, rfl, rfl, trivial⟩).1) (fun x hx => pX5_waysBehind_ok (h := xw [(5, b0, f0, s0), (0, b1, f1, s1), (12, b2, f2, s2), (7, b3, f3, s3)] h) (f0 := f0) (f1 := f1) (f2 := f2) (xok_sub ho [0, 1, 2] rfl (by decide)) hq_0_0 hq_0_5 20 s0 s1 s2 (v4 ||| ((1 : Int32) <<< (v10 &&& 31))) (0 : Int32) x hx) rfl (fun x5 _ => ?_)
        refine s_lstore (lv' := [(11, .long x5.1), (0, .ref b0), (3, .ref (b3 + 16)), (4, .int v4), (5, .int v5), (6, .long v6), (8, .int v8), (9, .int v9), (10, .int v10)]) (pc := 90) dX5_writeOrder_90 (by decide) rfl ?_
        refine s_lload (pc := 92) 5 dX5_writeOrder_92 rfl ?_
        refine s_lload (pc := 94) 0 dX5_writeOrder_94 rfl ?_
        refine s_lcmp (pc := 96) dX5_writeOrder_96 ?_
        refine s_ifL (lg_cmp_ge _ _) (s_if_ge (tgt := 121) (pc := 97) dX5_writeOrder_97 (by decide) (fun _ => ?_) (fun _ => ?_))
        · refine s_lload (pc := 121) 5 dX5_writeOrder_121 rfl ?_
          refine s_lload (pc := 123) 0 dX5_writeOrder_123 rfl ?_
          refine s_lsub (pc := 125) dX5_writeOrder_125 ?_
          refine s_lstoreT (lv' := fun x6 => [(6, .long x6), (11, .long x5.1), (0, .ref b0), (3, .ref (b3 + 16)), (4, .int v4), (5, .int v5), (8, .int v8), (9, .int v9), (10, .int v10)]) (pc := 126) dX5_writeOrder_126 (by decide) (fun _ => rfl) (fun x6 => ?_)
          refine s_sub [2, 3, 4, 5, 0, 6, 7, 8] rfl ?_
          exact X5_writeOrder_j128_ok ho hq_0_0 hq_0_5 v4 v5 x6 v8 v9 v10 s0 s1 x5.2 s3
        · refine s_sub [1, 2, 3, 4, 5, 6, 7, 8] rfl ?_
          exact s_ev (fun _ _ q => q)
      · exact X5_writeOrder_j128_ok ho hq_0_0 hq_0_5 v4 v5 v6 v8 v9 v10 s0 s1 s2 s3
    · exact X5_writeOrder_j128_ok ho hq_0_0 hq_0_5 v4 v5 v6 v8 v9 v10 s0 s1 s2 s3
def X5_writeOrder_j134 (v4 : Int32) (v5 : Int32) (v6 : Int64) (v8 : Int32) (v9 : Int32) (s0 : RS) (s1 : RS) (s2 : RS) (s3 : RS) : Option ((Int32 × Int32 × Int64 × Int32 × RS × RS) ⊕ (Int32 × RS × RS)) :=
  thn (v9 + 1) fun x11 =>
  some (.inl (v4, v5, v6, x11, s2, s3))
theorem X5_writeOrder_j134_ok (ho : xok [(5, b0), (0, b1), (12, b2), (7, b3)] h.2.1) (hq_0_0 : f0 0 = some b1) (hq_0_5 : f0 5 = some b2) (v4 : Int32) (v5 : Int32) (v6 : Int64) (v8 : Int32) (v9 : Int32) (s0 : RS) (s1 : RS) (s2 : RS) (s3 : RS) : aS l 61 MX5_writeOrder n0 S0 (a_LΦ (X5_writeOrder_x21 l n0 S0 h b0 b1 b2 b3 f0 f1 f2 f3 v8 s0 s1) l 61 MX5_writeOrder n0 S0 21 (fun (q : Int32 × Int32 × Int64 × Int32 × RS × RS) => [(0, .ref b0), (3, .ref (b3 + 16)), (4, .int q.1), (5, .int q.2.1), (6, .long q.2.2.1), (8, .int v8), (9, .int q.2.2.2.1)]) (fun _ => []) (fun (q : Int32 × Int32 × Int64 × Int32 × RS × RS) => xw [(5, b0, f0, s0), (0, b1, f1, s1), (12, b2, f2, q.2.2.2.2.1), (7, b3, f3, q.2.2.2.2.2)] h)) 134 [(0, .ref b0), (3, .ref (b3 + 16)), (4, .int v4), (5, .int v5), (6, .long v6), (8, .int v8), (9, .int v9)] [] (xw [(5, b0, f0, s0), (0, b1, f1, s1), (12, b2, f2, s2), (7, b3, f3, s3)] h) (X5_writeOrder_j134 v4 v5 v6 v8 v9 s0 s1 s2 s3) := by
  unfold X5_writeOrder_j134
  refine s_iincT (pc := 134) 6 (lv' := fun x11 => [(9, .int x11), (0, .ref b0), (3, .ref (b3 + 16)), (4, .int v4), (5, .int v5), (6, .long v6), (8, .int v8)]) dX5_writeOrder_134 rfl rfl (by decide) (fun _ => rfl) (fun x11 => ?_)
  refine s_goto (tgt := 21) (pc := 137) dX5_writeOrder_137 (by decide) ?_
  refine s_sub [1, 2, 3, 4, 5, 6, 0] rfl ?_
  exact s_ev (fun _ _ q => q)
def X5_writeOrder_b21 (v8 : Int32) (v4 : Int32) (v5 : Int32) (v6 : Int64) (v9 : Int32) (s0 : RS) (s1 : RS) (s2 : RS) (s3 : RS) : Option ((Int32 × Int32 × Int64 × Int32 × RS × RS) ⊕ (Int32 × RS × RS)) :=
  if v8 ≤ v9 then
    some (.inr (v5, s2, s3))
  else
    if (16 : Int32) ≤ v9 then
      some (.inr (v5, s2, s3))
    else
      (a_loop (fun (q : Int64 × Int32 × RS) => X5_writeOrder_b38 v4 v5 v8 v9 q.1 q.2.1 s0 s1 q.2.2 s3) FU (v6, (0 : Int32), s2)).bind (Sum.elim (fun (t7 : Int64 × Int32 × RS) =>
          g_in v9 16 (thn (uA s3 3 (upd (s3.2.2.1 3) v9.toNatClampNeg t7.2.1)) fun s_8 =>
          thn (v4 ||| ((1 : Int32) <<< (t7.2.1 &&& 31))) fun x9 =>
          thn (v5 + 1) fun x10 =>
          X5_writeOrder_j134 x9 x10 t7.1 v8 v9 s0 s1 t7.2.2 s_8))
        (fun (t12 : Int64 × RS) =>
          X5_writeOrder_j134 v4 v5 t12.1 v8 v9 s0 s1 t12.2 s3))
theorem X5_writeOrder_b21_ok (ho : xok [(5, b0), (0, b1), (12, b2), (7, b3)] h.2.1) (hq_0_0 : f0 0 = some b1) (hq_0_5 : f0 5 = some b2) (v8 : Int32) (v4 : Int32) (v5 : Int32) (v6 : Int64) (v9 : Int32) (s0 : RS) (s1 : RS) (s2 : RS) (s3 : RS) : aS l 61 MX5_writeOrder n0 S0 (a_LΦ (X5_writeOrder_x21 l n0 S0 h b0 b1 b2 b3 f0 f1 f2 f3 v8 s0 s1) l 61 MX5_writeOrder n0 S0 21 (fun (q : Int32 × Int32 × Int64 × Int32 × RS × RS) => [(0, .ref b0), (3, .ref (b3 + 16)), (4, .int q.1), (5, .int q.2.1), (6, .long q.2.2.1), (8, .int v8), (9, .int q.2.2.2.1)]) (fun _ => []) (fun (q : Int32 × Int32 × Int64 × Int32 × RS × RS) => xw [(5, b0, f0, s0), (0, b1, f1, s1), (12, b2, f2, q.2.2.2.2.1), (7, b3, f3, q.2.2.2.2.2)] h)) 21 [(0, .ref b0), (3, .ref (b3 + 16)), (4, .int v4), (5, .int v5), (6, .long v6), (8, .int v8), (9, .int v9)] [] (xw [(5, b0, f0, s0), (0, b1, f1, s1), (12, b2, f2, s2), (7, b3, f3, s3)] h) (X5_writeOrder_b21 v8 v4 v5 v6 v9 s0 s1 s2 s3) := by
  unfold X5_writeOrder_b21
  refine s_iload (pc := 21) 6 dX5_writeOrder_21 rfl ?_
  refine s_iload (pc := 23) 5 dX5_writeOrder_23 rfl ?_
  refine s_icmp_ge (tgt := 140) (pc := 25) dX5_writeOrder_25 (by decide) (fun _ => ?_) (fun _ => ?_)
  · refine s_sub [3] rfl ?_
    exact s_ev (fun _ _ q => q)
  · refine s_iload (pc := 28) 6 dX5_writeOrder_28 rfl ?_
    refine s_aload_n (pc := 30) 1 dX5_writeOrder_30 rfl ?_
    refine xn_7_3 3 ho rfl (pc := 31) dX5_writeOrder_31 ?_
    refine s_icmp_ge (tgt := 140) (pc := 32) dX5_writeOrder_32 (by decide) (fun _ => ?_) (fun _ => ?_)
    · refine s_sub [3] rfl ?_
      exact s_ev (fun _ _ q => q)
    · refine s_iconst (v := 0) (pc := 35) dX5_writeOrder_35 (by decide) ?_
      refine s_istore (lv' := [(10, .int 0), (0, .ref b0), (3, .ref (b3 + 16)), (4, .int v4), (5, .int v5), (6, .long v6), (8, .int v8), (9, .int v9)]) (pc := 36) dX5_writeOrder_36 (by decide) rfl ?_
      refine s_bind (Ψ := X5_writeOrder_x38 l n0 S0 h b0 b1 b2 b3 f0 f1 f2 f3 v4 v5 v8 v9 s0 s1 s3) ?_ ?_
      · refine s_sub [1, 2, 3, 4, 5, 6, 7, 0] rfl ?_
        exact s_loop (lvf := fun (q : Int64 × Int32 × RS) => [(0, .ref b0), (3, .ref (b3 + 16)), (4, .int v4), (5, .int v5), (6, .long q.1), (8, .int v8), (9, .int v9), (10, .int q.2.1)]) (stf := fun _ => []) (hf := fun (q : Int64 × Int32 × RS) => xw [(5, b0, f0, s0), (0, b1, f1, s1), (12, b2, f2, q.2.2), (7, b3, f3, s3)] h) (fun q => X5_writeOrder_b38_ok ho hq_0_0 hq_0_5 v4 v5 v8 v9 q.1 q.2.1 s0 s1 q.2.2 s3) FU (v6, (0 : Int32), s2)
      · intro x z r h' hz hr
        rcases x with t7 | t12
        · refine (?_ : aS l 61 MX5_writeOrder n0 S0 (a_LΦ (X5_writeOrder_x21 l n0 S0 h b0 b1 b2 b3 f0 f1 f2 f3 v8 s0 s1) l 61 MX5_writeOrder n0 S0 21 (fun (q : Int32 × Int32 × Int64 × Int32 × RS × RS) => [(0, .ref b0), (3, .ref (b3 + 16)), (4, .int q.1), (5, .int q.2.1), (6, .long q.2.2.1), (8, .int v8), (9, .int q.2.2.2.1)]) (fun _ => []) (fun (q : Int32 × Int32 × Int64 × Int32 × RS × RS) => xw [(5, b0, f0, s0), (0, b1, f1, s1), (12, b2, f2, q.2.2.2.2.1), (7, b3, f3, q.2.2.2.2.2)] h)) 100 [(0, .ref b0), (3, .ref (b3 + 16)), (4, .int v4), (5, .int v5), (6, .long t7.1), (8, .int v8), (9, .int v9), (10, .int t7.2.1)] [] (xw [(5, b0, f0, s0), (0, b1, f1, s1), (12, b2, f2, t7.2.2), (7, b3, f3, s3)] h) _) z (show _ = some z from hz) r h' hr
          refine s_aload_n (pc := 100) 1 dX5_writeOrder_100 rfl ?_
          refine s_iload (pc := 101) 6 dX5_writeOrder_101 rfl ?_
          refine s_iload (pc := 103) 7 dX5_writeOrder_103 rfl ?_
          refine xs_7_3 (L' := fun s_8 => [(5, b0, f0, s0), (0, b1, f1, s1), (12, b2, f2, t7.2.2), (7, b3, f3, s_8)]) 3 ho rfl (fun _ => rfl) (pc := 105) dX5_writeOrder_105 (fun s_8 => ?_)
          refine s_iload (pc := 106) 2 dX5_writeOrder_106 rfl ?_
          refine s_iconst (v := 1) (pc := 108) dX5_writeOrder_108 (by decide) ?_
          refine s_iload (pc := 109) 7 dX5_writeOrder_109 rfl ?_
          refine s_ishl (pc := 111) dX5_writeOrder_111 ?_
          refine s_ior (pc := 112) dX5_writeOrder_112 ?_
          refine s_istoreT (lv' := fun x9 => [(4, .int x9), (0, .ref b0), (3, .ref (b3 + 16)), (5, .int v5), (6, .long t7.1), (8, .int v8), (9, .int v9), (10, .int t7.2.1)]) (pc := 113) dX5_writeOrder_113 (by decide) (fun _ => rfl) (fun x9 => ?_)
          refine s_iincT (pc := 115) 3 (lv' := fun x10 => [(5, .int x10), (4, .int x9), (0, .ref b0), (3, .ref (b3 + 16)), (6, .long t7.1), (8, .int v8), (9, .int v9), (10, .int t7.2.1)]) dX5_writeOrder_115 rfl rfl (by decide) (fun _ => rfl) (fun x10 => ?_)
          refine s_goto (tgt := 134) (pc := 118) dX5_writeOrder_118 (by decide) ?_
          refine s_sub [2, 3, 1, 0, 4, 5, 6] rfl ?_
          exact X5_writeOrder_j134_ok ho hq_0_0 hq_0_5 x9 x10 t7.1 v8 v9 s0 s1 t7.2.2 s_8
        · refine (?_ : aS l 61 MX5_writeOrder n0 S0 (a_LΦ (X5_writeOrder_x21 l n0 S0 h b0 b1 b2 b3 f0 f1 f2 f3 v8 s0 s1) l 61 MX5_writeOrder n0 S0 21 (fun (q : Int32 × Int32 × Int64 × Int32 × RS × RS) => [(0, .ref b0), (3, .ref (b3 + 16)), (4, .int q.1), (5, .int q.2.1), (6, .long q.2.2.1), (8, .int v8), (9, .int q.2.2.2.1)]) (fun _ => []) (fun (q : Int32 × Int32 × Int64 × Int32 × RS × RS) => xw [(5, b0, f0, s0), (0, b1, f1, s1), (12, b2, f2, q.2.2.2.2.1), (7, b3, f3, q.2.2.2.2.2)] h)) 134 [(0, .ref b0), (3, .ref (b3 + 16)), (4, .int v4), (5, .int v5), (6, .long t12.1), (8, .int v8), (9, .int v9)] [] (xw [(5, b0, f0, s0), (0, b1, f1, s1), (12, b2, f2, t12.2), (7, b3, f3, s3)] h) _) z (show _ = some z from hz) r h' hr
          exact X5_writeOrder_j134_ok ho hq_0_0 hq_0_5 v4 v5 t12.1 v8 v9 s0 s1 t12.2 s3
def pX5_writeOrder (s0 : RS) (s1 : RS) (s2 : RS) (s3 : RS) (a0 : Int64) : Option (Int32 × RS × RS) :=
  (pJ6_bitCount_0f7a4 (s0.1 1)).bind fun x1 =>
  (a_loop (fun (q : Int32 × Int32 × Int64 × Int32 × RS × RS) => X5_writeOrder_b21 x1 q.1 q.2.1 q.2.2.1 q.2.2.2.1 s0 s1 q.2.2.2.2.1 q.2.2.2.2.2) FU ((0 : Int32), (0 : Int32), a0, (0 : Int32), s2, s3)).bind fun (t13 : Int32 × RS × RS) =>
    some (t13.1, t13.2.1, t13.2.2)
theorem pX5_writeOrder_w (ho : xok [(5, b0), (0, b1), (12, b2), (7, b3)] h.2.1) (hq_0_0 : f0 0 = some b1) (hq_0_5 : f0 5 = some b2) (s0 : RS) (s1 : RS) (s2 : RS) (s3 : RS) (a0 : Int64) : aS l 61 MX5_writeOrder n0 S0 (oΦ (fun (x : Int32 × RS × RS) => ((some (.int x.1)), xw [(5, b0, f0, s0), (0, b1, f1, s1), (12, b2, f2, x.2.1), (7, b3, f3, x.2.2)] h))) 0 [(0, .ref b0), (1, .long a0), (3, .ref (b3 + 16))] [] (xw [(5, b0, f0, s0), (0, b1, f1, s1), (12, b2, f2, s2), (7, b3, f3, s3)] h) (pX5_writeOrder s0 s1 s2 s3 a0) := by
  unfold pX5_writeOrder
  refine s_iconst (v := 0) (pc := 0) dX5_writeOrder_0 (by decide) ?_
  refine s_istore (lv' := [(4, .int 0), (0, .ref b0), (1, .long a0), (3, .ref (b3 + 16))]) (pc := 1) dX5_writeOrder_1 (by decide) rfl ?_
  refine s_iconst (v := 0) (pc := 3) dX5_writeOrder_3 (by decide) ?_
  refine s_istore (lv' := [(5, .int 0), (4, .int 0), (0, .ref b0), (1, .long a0), (3, .ref (b3 + 16))]) (pc := 4) dX5_writeOrder_4 (by decide) rfl ?_
  refine s_lload_n (pc := 6) 3 dX5_writeOrder_6 rfl ?_
  refine s_lstore (lv' := [(6, .long a0), (5, .int 0), (4, .int 0), (0, .ref b0), (1, .long a0), (3, .ref (b3 + 16))]) (pc := 7) dX5_writeOrder_7 (by decide) rfl ?_
  refine s_aload_n (pc := 9) 3 dX5_writeOrder_9 rfl ?_
  refine xg_X5_18 0 ho rfl (pc := 10) dX5_writeOrder_10 rfl ?_
  refine s_callS (M := MX5_writeOrder) (As := [.int (s0.1 1)]) (st := []) (Ψ := fun (x : Int32) => (some (.int x), xw [(5, b0, f0, s0), (0, b1, f1, s1), (12, b2, f2, s2), (7, b3, f3, s3)] h)) cs_X5_68 (by decide) (pc := 13) dX5_writeOrder_13 rfl (Nat.le_of_ble_eq_true rfl) (fun x hx => pJ6_bitCount_0f7a4_ok (s0.1 1) x hx) rfl (fun x1 _ => ?_)
  refine s_istore (lv' := [(8, .int x1), (6, .long a0), (5, .int 0), (4, .int 0), (0, .ref b0), (1, .long a0), (3, .ref (b3 + 16))]) (pc := 16) dX5_writeOrder_16 (by decide) rfl ?_
  refine s_iconst (v := 0) (pc := 18) dX5_writeOrder_18 (by decide) ?_
  refine s_istore (lv' := [(9, .int 0), (8, .int x1), (6, .long a0), (5, .int 0), (4, .int 0), (0, .ref b0), (1, .long a0), (3, .ref (b3 + 16))]) (pc := 19) dX5_writeOrder_19 (by decide) rfl ?_
  refine s_bind (Ψ := X5_writeOrder_x21 l n0 S0 h b0 b1 b2 b3 f0 f1 f2 f3 x1 s0 s1) ?_ ?_
  · refine s_sub [5, 7, 4, 3, 2, 1, 0] rfl ?_
    exact s_loop (lvf := fun (q : Int32 × Int32 × Int64 × Int32 × RS × RS) => [(0, .ref b0), (3, .ref (b3 + 16)), (4, .int q.1), (5, .int q.2.1), (6, .long q.2.2.1), (8, .int x1), (9, .int q.2.2.2.1)]) (stf := fun _ => []) (hf := fun (q : Int32 × Int32 × Int64 × Int32 × RS × RS) => xw [(5, b0, f0, s0), (0, b1, f1, s1), (12, b2, f2, q.2.2.2.2.1), (7, b3, f3, q.2.2.2.2.2)] h) (fun q => X5_writeOrder_b21_ok ho hq_0_0 hq_0_5 x1 q.1 q.2.1 q.2.2.1 q.2.2.2.1 s0 s1 q.2.2.2.2.1 q.2.2.2.2.2) FU ((0 : Int32), (0 : Int32), a0, (0 : Int32), s2, s3)
  · intro t13 z r h' hz hr
    refine (?_ : aS l 61 MX5_writeOrder n0 S0 (oΦ (fun (x : Int32 × RS × RS) => ((some (.int x.1)), xw [(5, b0, f0, s0), (0, b1, f1, s1), (12, b2, f2, x.2.1), (7, b3, f3, x.2.2)] h))) 140 [(5, .int t13.1)] [] (xw [(5, b0, f0, s0), (0, b1, f1, s1), (12, b2, f2, t13.2.1), (7, b3, f3, t13.2.2)] h) _) z hz r h' hr
    refine s_iload (pc := 140) 0 dX5_writeOrder_140 rfl ?_
    exact s_iret (pc := 142) dX5_writeOrder_142 rfl (fun _ _ q => q)
theorem pX5_writeOrder_ok (ho : xok [(5, b0), (0, b1), (12, b2), (7, b3)] h.2.1) (hq_0_0 : f0 0 = some b1) (hq_0_5 : f0 5 = some b2) (s0 : RS) (s1 : RS) (s2 : RS) (s3 : RS) (a0 : Int64) : ∀ x, pX5_writeOrder s0 s1 s2 s3 a0 = some x → aMet l 61 yX5_writeOrder cX5_writeOrder 13 (some .int) [.ref b0, .long a0, .ref (b3 + 16)] (xw [(5, b0, f0, s0), (0, b1, f1, s1), (12, b2, f2, s2), (7, b3, f3, s3)] h) (some (.int x.1)) (xw [(5, b0, f0, s0), (0, b1, f1, s1), (12, b2, f2, x.2.1), (7, b3, f3, x.2.2)] h) := fun x hx => a_meth (ini := false) (y := yX5_writeOrder) (by decide +kernel) (fun q => by cases q) (fun _ => Nat.le_of_ble_eq_true rfl) (pX5_writeOrder_w ho hq_0_0 hq_0_5 s0 s1 s2 s3 a0) x hx _ _ ⟨rfl, rfl⟩
end
section
variable {l : Launch} {n0 S0 : Nat} {h : aH} {b0 : Nat} {f0 : Nat → Option Nat}
abbrev MX6_keepBetter : aM := (cX6_keepBetter, RX6, 4, none, false)
def X6_keepBetter_j31 (v1 : Int32) (s0 : RS) : Option RS :=
  thn (uI s0 2 v1) fun s_3 =>
  some s_3
theorem X6_keepBetter_j31_ok (ho : xok [(6, b0)] h.2.1) (v1 : Int32) (s0 : RS) : aS l 1 MX6_keepBetter n0 S0 (oΦ (fun (x : RS) => (none, xw [(6, b0, f0, x)] h))) 31 [(0, .ref b0), (1, .int v1)] [] (xw [(6, b0, f0, s0)] h) (X6_keepBetter_j31 v1 s0) := by
  unfold X6_keepBetter_j31
  refine s_aload_n (pc := 31) 0 dX6_keepBetter_31 rfl ?_
  refine s_iload_n (pc := 32) 1 dX6_keepBetter_32 rfl ?_
  refine xp_X6_19 (L' := fun s_3 => [(6, b0, f0, s_3)]) 0 ho rfl (fun _ => rfl) (pc := 33) dX6_keepBetter_33 rfl (fun s_3 => ?_)
  exact s_vret (pc := 36) dX6_keepBetter_36 rfl (fun _ _ q => q)
def pX6_keepBetter (s0 : RS) (a0 : Int32) : Option RS :=
  (pJ6_bitCount_0f7a4 a0).bind fun x1 =>
  (pJ6_bitCount_0f7a4 (s0.1 2)).bind fun x2 =>
  if x1 < x2 then
    X6_keepBetter_j31 a0 s0
  else
    if x1 = x2 then
      if (s0.1 2) ≤ a0 then
        some s0
      else
        X6_keepBetter_j31 a0 s0
    else
      some s0
theorem pX6_keepBetter_w (ho : xok [(6, b0)] h.2.1) (s0 : RS) (a0 : Int32) : aS l 1 MX6_keepBetter n0 S0 (oΦ (fun (x : RS) => (none, xw [(6, b0, f0, x)] h))) 0 [(0, .ref b0), (1, .int a0)] [] (xw [(6, b0, f0, s0)] h) (pX6_keepBetter s0 a0) := by
  unfold pX6_keepBetter
  refine s_iload_n (pc := 0) 1 dX6_keepBetter_0 rfl ?_
  refine s_callS (M := MX6_keepBetter) (As := [.int a0]) (st := []) (Ψ := fun (x : Int32) => (some (.int x), xw [(6, b0, f0, s0)] h)) cs_X6_26 (by decide) (pc := 1) dX6_keepBetter_1 rfl (Nat.le_of_ble_eq_true rfl) (fun x hx => pJ6_bitCount_0f7a4_ok a0 x hx) rfl (fun x1 _ => ?_)
  refine s_istore_n (lv' := [(2, .int x1), (0, .ref b0), (1, .int a0)]) (pc := 4) dX6_keepBetter_4 (by decide) rfl ?_
  refine s_aload_n (pc := 5) 1 dX6_keepBetter_5 rfl ?_
  refine xg_X6_19 0 ho rfl (pc := 6) dX6_keepBetter_6 rfl ?_
  refine s_callS (M := MX6_keepBetter) (As := [.int (s0.1 2)]) (st := []) (Ψ := fun (x : Int32) => (some (.int x), xw [(6, b0, f0, s0)] h)) cs_X6_26 (by decide) (pc := 9) dX6_keepBetter_9 rfl (Nat.le_of_ble_eq_true rfl) (fun x hx => pJ6_bitCount_0f7a4_ok (s0.1 2) x hx) rfl (fun x2 _ => ?_)
  refine s_istore_n (lv' := [(3, .int x2), (2, .int x1), (0, .ref b0), (1, .int a0)]) (pc := 12) dX6_keepBetter_12 (by decide) rfl ?_
  refine s_iload_n (pc := 13) 1 dX6_keepBetter_13 rfl ?_
  refine s_iload_n (pc := 14) 0 dX6_keepBetter_14 rfl ?_
  refine s_icmp_lt (tgt := 31) (pc := 15) dX6_keepBetter_15 (by decide) (fun _ => ?_) (fun _ => ?_)
  · refine s_sub [2, 3] rfl ?_
    exact X6_keepBetter_j31_ok ho a0 s0
  · refine s_iload_n (pc := 18) 1 dX6_keepBetter_18 rfl ?_
    refine s_iload_n (pc := 19) 0 dX6_keepBetter_19 rfl ?_
    refine s_icmp_ne (tgt := 36) (pc := 20) dX6_keepBetter_20 (by decide) (fun _ => ?_) (fun _ => ?_)
    · refine s_iload_n (pc := 23) 3 dX6_keepBetter_23 rfl ?_
      refine s_aload_n (pc := 24) 2 dX6_keepBetter_24 rfl ?_
      refine xg_X6_19 0 ho rfl (pc := 25) dX6_keepBetter_25 rfl ?_
      refine s_icmp_ge (tgt := 36) (pc := 28) dX6_keepBetter_28 (by decide) (fun _ => ?_) (fun _ => ?_)
      · exact s_vret (pc := 36) dX6_keepBetter_36 rfl (fun _ _ q => q)
      · refine s_sub [2, 3] rfl ?_
        exact X6_keepBetter_j31_ok ho a0 s0
    · exact s_vret (pc := 36) dX6_keepBetter_36 rfl (fun _ _ q => q)
theorem pX6_keepBetter_ok (ho : xok [(6, b0)] h.2.1) (s0 : RS) (a0 : Int32) : ∀ x, pX6_keepBetter s0 a0 = some x → aMet l 1 yX6_keepBetter cX6_keepBetter 4 none [.ref b0, .int a0] (xw [(6, b0, f0, s0)] h) none (xw [(6, b0, f0, x)] h) := fun x hx => a_meth (ini := false) (y := yX6_keepBetter) (by decide +kernel) (fun q => by cases q) (fun _ => Nat.le_of_ble_eq_true rfl) (pX6_keepBetter_w ho s0 a0) x hx _ _ ⟨rfl, rfl⟩
end
section
variable {l : Launch} {n0 S0 : Nat} {h : aH} {b0 b1 : Nat} {f0 f1 : Nat → Option Nat} {dr : Nat}
abbrev MX6_seek : aM := (cX6_seek, RX6, 8, none, false)
def X6_seek_x87 (l : Launch) (n0 S0 : Nat) (dr : Nat) (h : aH) (b0 : Nat) (b1 : Nat) (f0 : Nat → Option Nat) (f1 : Nat → Option Nat) (v2 : Int32) (v5 : Int32) (s0 : RS) (s1 : RS) : Int32 → Option Value → aH → Prop := fun (x : Int32) r h' => aEv l (dr + 3) MX6_seek n0 S0 128 [(0, .ref b0), (2, .int v2), (6, .int x)] [] (xw [(6, b0, f0, s0), (0, b1, f1, s1)] h) r h'
def X6_seek_j122 (rc : RS → RS → Int32 → Int32 → Option RS) (v2 : Int32) (v5 : Int32) (v6 : Int32) (v7 : Int32) (s0 : RS) (s1 : RS) : Option ((Int32 × Int32) ⊕ Int32) :=
  thn (v7 + 1) fun x9 =>
  some (.inl (v6, x9))
theorem X6_seek_j122_ok (ho : xok [(6, b0), (0, b1)] h.2.1) (hq_0_0 : f0 0 = some b1) {rc : RS → RS → Int32 → Int32 → Option RS} (hrc : ∀ (h : aH), xok [(6, b0), (0, b1)] h.2.1 → ∀ (s0 : RS) (s1 : RS) (a0 : Int32) (a1 : Int32)  x, rc s0 s1 a0 a1 = some x → aMet l dr yX6_seek cX6_seek 8 none [.ref b0, .int a0, .int a1] (xw [(6, b0, f0, s0), (0, b1, f1, s1)] h) none (xw [(6, b0, f0, x), (0, b1, f1, s1)] h)) (v2 : Int32) (v5 : Int32) (v6 : Int32) (v7 : Int32) (s0 : RS) (s1 : RS) : aS l (dr + 3) MX6_seek n0 S0 (a_LΦ (X6_seek_x87 l n0 S0 dr h b0 b1 f0 f1 v2 v5 s0 s1) l (dr + 3) MX6_seek n0 S0 87 (fun (q : Int32 × Int32) => [(0, .ref b0), (2, .int v2), (5, .int v5), (6, .int q.1), (7, .int q.2)]) (fun _ => []) (fun (q : Int32 × Int32) => xw [(6, b0, f0, s0), (0, b1, f1, s1)] h)) 122 [(0, .ref b0), (2, .int v2), (5, .int v5), (6, .int v6), (7, .int v7)] [] (xw [(6, b0, f0, s0), (0, b1, f1, s1)] h) (X6_seek_j122 rc v2 v5 v6 v7 s0 s1) := by
  unfold X6_seek_j122
  refine s_iincT (pc := 122) 4 (lv' := fun x9 => [(7, .int x9), (0, .ref b0), (2, .int v2), (5, .int v5), (6, .int v6)]) dX6_seek_122 rfl rfl (by decide) (fun _ => rfl) (fun x9 => ?_)
  refine s_goto (tgt := 87) (pc := 125) dX6_seek_125 (by decide) ?_
  refine s_sub [1, 2, 3, 4, 0] rfl ?_
  exact s_ev (fun _ _ q => q)
def X6_seek_b87 (rc : RS → RS → Int32 → Int32 → Option RS) (v2 : Int32) (v5 : Int32) (v6 : Int32) (v7 : Int32) (s0 : RS) (s1 : RS) : Option ((Int32 × Int32) ⊕ Int32) :=
  if (s1.1 1) ≤ v7 then
    some (.inr v6)
  else
    (pX0_isIn v5 v7).bind fun x8 =>
    if x8 = true then
      (pX0_without s1 v6 v7).bind fun x10 =>
      X6_seek_j122 rc v2 v5 x10 v7 s0 s1
    else
      X6_seek_j122 rc v2 v5 v6 v7 s0 s1
theorem X6_seek_b87_ok (ho : xok [(6, b0), (0, b1)] h.2.1) (hq_0_0 : f0 0 = some b1) {rc : RS → RS → Int32 → Int32 → Option RS} (hrc : ∀ (h : aH), xok [(6, b0), (0, b1)] h.2.1 → ∀ (s0 : RS) (s1 : RS) (a0 : Int32) (a1 : Int32)  x, rc s0 s1 a0 a1 = some x → aMet l dr yX6_seek cX6_seek 8 none [.ref b0, .int a0, .int a1] (xw [(6, b0, f0, s0), (0, b1, f1, s1)] h) none (xw [(6, b0, f0, x), (0, b1, f1, s1)] h)) (v2 : Int32) (v5 : Int32) (v6 : Int32) (v7 : Int32) (s0 : RS) (s1 : RS) : aS l (dr + 3) MX6_seek n0 S0 (a_LΦ (X6_seek_x87 l n0 S0 dr h b0 b1 f0 f1 v2 v5 s0 s1) l (dr + 3) MX6_seek n0 S0 87 (fun (q : Int32 × Int32) => [(0, .ref b0), (2, .int v2), (5, .int v5), (6, .int q.1), (7, .int q.2)]) (fun _ => []) (fun (q : Int32 × Int32) => xw [(6, b0, f0, s0), (0, b1, f1, s1)] h)) 87 [(0, .ref b0), (2, .int v2), (5, .int v5), (6, .int v6), (7, .int v7)] [] (xw [(6, b0, f0, s0), (0, b1, f1, s1)] h) (X6_seek_b87 rc v2 v5 v6 v7 s0 s1) := by
  unfold X6_seek_b87
  refine s_iload (pc := 87) 4 dX6_seek_87 rfl ?_
  refine s_aload_n (pc := 89) 0 dX6_seek_89 rfl ?_
  refine xg_X6_9 0 ho rfl (pc := 90) dX6_seek_90 rfl hq_0_0 ?_
  refine xg_X6_48 1 ho rfl (pc := 93) dX6_seek_93 rfl ?_
  refine s_icmp_ge (tgt := 128) (pc := 96) dX6_seek_96 (by decide) (fun _ => ?_) (fun _ => ?_)
  · refine s_sub [0, 1, 3] rfl ?_
    exact s_ev (fun _ _ q => q)
  · refine s_iload (pc := 99) 2 dX6_seek_99 rfl ?_
    refine s_iload (pc := 101) 4 dX6_seek_101 rfl ?_
    refine s_callS (M := MX6_seek) (As := [.int v5, .int v7]) (st := []) (Ψ := fun (x : Bool) => (some (.int (b2i x)), xw [(6, b0, f0, s0), (0, b1, f1, s1)] h)) cs_X6_51 (by omega) (pc := 103) dX6_seek_103 rfl (Nat.le_of_ble_eq_true rfl) (fun x hx => pX0_isIn_ok v5 v7 x hx) rfl (fun x8 _ => ?_)
    refine s_if_eqB (tgt := 122) (pc := 106) dX6_seek_106 (by decide) (fun _ => ?_) (fun _ => ?_)
    · refine s_aload_n (pc := 109) 0 dX6_seek_109 rfl ?_
      refine xg_X6_9 0 ho rfl (pc := 110) dX6_seek_110 rfl hq_0_0 ?_
      refine s_iload (pc := 113) 3 dX6_seek_113 rfl ?_
      refine s_iload (pc := 115) 4 dX6_seek_115 rfl ?_
      refine x_callV (M := MX6_seek) (L := [(6, b0, f0, s0), (0, b1, f1, s1)]) (h := h) (j := 1) (As := [.int v6, .int v7]) (st := []) (A := fun (x : Int32) => some (.int x)) (Lc := [(0, b1, f1, s1)]) (Lr := fun (x : Int32) => [(0, b1, f1, s1)]) (L2 := fun (x : Int32) => [(6, b0, f0, s0), (0, b1, f1, s1)]) cv_X6_41 (by omega) (pc := 117) dX6_seek_117 ho rfl xc0_0 rfl rfl (Nat.le_of_ble_eq_true rfl) (xovs (L := [(6, b0, f0, s0), (0, b1, f1, s1)]) (h := h) [(1, (0, b1, f1, s1))] ho ⟨rfl, trivial⟩).1 (fun x => (xovs (L := [(6, b0, f0, s0), (0, b1, f1, s1)]) (h := h) [(1, (0, b1, f1, s1))] ho ⟨rfl, trivial⟩).1) (fun x hx => pX0_without_ok (h := xw [(6, b0, f0, s0), (0, b1, f1, s1)] h) (f0 := f1) (xok_sub ho [1] rfl (by decide)) s1 v6 v7 x hx) rfl (fun x10 _ => ?_)
      refine s_istore (lv' := [(6, .int x10), (0, .ref b0), (2, .int v2), (5, .int v5), (7, .int v7)]) (pc := 120) dX6_seek_120 (by decide) rfl ?_
      refine s_sub [1, 2, 3, 0, 4] rfl ?_
      exact X6_seek_j122_ok ho hq_0_0 hrc v2 v5 x10 v7 s0 s1
    · exact X6_seek_j122_ok ho hq_0_0 hrc v2 v5 v6 v7 s0 s1
def pX6_seek_f (rc : RS → RS → Int32 → Int32 → Option RS) (s0 : RS) (s1 : RS) (a0 : Int32) (a1 : Int32) : Option RS :=
  thn ((s0.1 1) &&& (a0 ^^^ (-1 : Int32))) fun x1 =>
  if (16 : Int32) < a1 then
    some s0
  else
    (pJ6_bitCount_0f7a4 x1).bind fun x2 =>
    (pJ6_bitCount_0f7a4 (s0.1 2)).bind fun x3 =>
    if x2 ≤ x3 then
      (pX0_mostQuarrelling s1 a0).bind fun x4 =>
      if x4 = (-1 : Int32) then
        (pX6_keepBetter s0 x1).bind fun x13 =>
        some x13
      else
        (pX0_without s1 a0 x4).bind fun x5 =>
        (rc s0 s1 x5 (a1 + (1 : Int32))).bind fun x6 =>
        (pX0_quarrelersOf s1 a0 x4).bind fun x7 =>
        (a_loop (fun (q : Int32 × Int32) => X6_seek_b87 rc a1 x7 q.1 q.2 x6 s1) FU (a0, (0 : Int32))).bind fun (t11 : Int32) =>
          (rc x6 s1 t11 (a1 + (1 : Int32))).bind fun x12 =>
          some x12
    else
      some s0
theorem pX6_seek_f_w (ho : xok [(6, b0), (0, b1)] h.2.1) (hq_0_0 : f0 0 = some b1) {rc : RS → RS → Int32 → Int32 → Option RS} (hrc : ∀ (h : aH), xok [(6, b0), (0, b1)] h.2.1 → ∀ (s0 : RS) (s1 : RS) (a0 : Int32) (a1 : Int32)  x, rc s0 s1 a0 a1 = some x → aMet l dr yX6_seek cX6_seek 8 none [.ref b0, .int a0, .int a1] (xw [(6, b0, f0, s0), (0, b1, f1, s1)] h) none (xw [(6, b0, f0, x), (0, b1, f1, s1)] h)) (s0 : RS) (s1 : RS) (a0 : Int32) (a1 : Int32) : aS l (dr + 3) MX6_seek n0 S0 (oΦ (fun (x : RS) => (none, xw [(6, b0, f0, x), (0, b1, f1, s1)] h))) 0 [(0, .ref b0), (1, .int a0), (2, .int a1)] [] (xw [(6, b0, f0, s0), (0, b1, f1, s1)] h) (pX6_seek_f rc s0 s1 a0 a1) := by
  unfold pX6_seek_f
  refine s_aload_n (pc := 0) 0 dX6_seek_0 rfl ?_
  refine xg_X6_15 0 ho rfl (pc := 1) dX6_seek_1 rfl ?_
  refine s_iload_n (pc := 4) 1 dX6_seek_4 rfl ?_
  refine s_iconst (v := (-1)) (pc := 5) dX6_seek_5 (by decide) ?_
  refine s_ixor (pc := 6) dX6_seek_6 ?_
  refine s_iand (pc := 7) dX6_seek_7 ?_
  refine s_istore_nT (lv' := fun x1 => [(3, .int x1), (0, .ref b0), (1, .int a0), (2, .int a1)]) (pc := 8) dX6_seek_8 (by decide) (fun _ => rfl) (fun x1 => ?_)
  refine s_iload_n (pc := 9) 3 dX6_seek_9 rfl ?_
  refine s_bipush (v := 16) (pc := 10) dX6_seek_10 (by decide) ?_
  refine s_icmp_gt (tgt := 29) (pc := 12) dX6_seek_12 (by decide) (fun _ => ?_) (fun _ => ?_)
  · exact s_vret (pc := 29) dX6_seek_29 rfl (fun _ _ q => q)
  · refine s_iload_n (pc := 15) 0 dX6_seek_15 rfl ?_
    refine s_callS (M := MX6_seek) (As := [.int x1]) (st := []) (Ψ := fun (x : Int32) => (some (.int x), xw [(6, b0, f0, s0), (0, b1, f1, s1)] h)) cs_X6_26 (by omega) (pc := 16) dX6_seek_16 rfl (Nat.le_of_ble_eq_true rfl) (fun x hx => pJ6_bitCount_0f7a4_ok x1 x hx) rfl (fun x2 _ => ?_)
    refine s_aload_n (pc := 19) 1 dX6_seek_19 rfl ?_
    refine xg_X6_19 0 ho rfl (pc := 20) dX6_seek_20 rfl ?_
    refine s_callS (M := MX6_seek) (As := [.int (s0.1 2)]) (st := [.int x2]) (Ψ := fun (x : Int32) => (some (.int x), xw [(6, b0, f0, s0), (0, b1, f1, s1)] h)) cs_X6_26 (by omega) (pc := 23) dX6_seek_23 rfl (Nat.le_of_ble_eq_true rfl) (fun x hx => pJ6_bitCount_0f7a4_ok (s0.1 2) x hx) rfl (fun x3 _ => ?_)
    refine s_icmp_le (tgt := 30) (pc := 26) dX6_seek_26 (by decide) (fun _ => ?_) (fun _ => ?_)
    · refine s_aload_n (pc := 30) 1 dX6_seek_30 rfl ?_
      refine xg_X6_9 0 ho rfl (pc := 31) dX6_seek_31 rfl hq_0_0 ?_
      refine s_iload_n (pc := 34) 2 dX6_seek_34 rfl ?_
      refine x_callV (M := MX6_seek) (L := [(6, b0, f0, s0), (0, b1, f1, s1)]) (h := h) (j := 1) (As := [.int a0]) (st := []) (A := fun (x : Int32) => some (.int x)) (Lc := [(0, b1, f1, s1)]) (Lr := fun (x : Int32) => [(0, b1, f1, s1)]) (L2 := fun (x : Int32) => [(6, b0, f0, s0), (0, b1, f1, s1)]) cv_X6_32 (by omega) (pc := 35) dX6_seek_35 ho rfl xc0_0 rfl rfl (Nat.le_of_ble_eq_true rfl) (xovs (L := [(6, b0, f0, s0), (0, b1, f1, s1)]) (h := h) [(1, (0, b1, f1, s1))] ho ⟨rfl, trivial⟩).1 (fun x => (xovs (L := [(6, b0, f0, s0), (0, b1, f1, s1)]) (h := h) [(1, (0, b1, f1, s1))] ho ⟨rfl, trivial⟩).1) (fun x hx => pX0_mostQuarrelling_ok (h := xw [(6, b0, f0, s0), (0, b1, f1, s1)] h) (f0 := f1) (xok_sub ho [1] rfl (by decide)) s1 a0 x hx) rfl (fun x4 _ => ?_)
      refine s_istore (lv' := [(4, .int x4), (3, .int x1), (0, .ref b0), (1, .int a0), (2, .int a1)]) (pc := 38) dX6_seek_38 (by decide) rfl ?_
      refine s_iload (pc := 40) 0 dX6_seek_40 rfl ?_
      refine s_iconst (v := (-1)) (pc := 42) dX6_seek_42 (by decide) ?_
      refine s_icmp_ne (tgt := 52) (pc := 43) dX6_seek_43 (by decide) (fun _ => ?_) (fun _ => ?_)
      · refine s_aload_n (pc := 46) 2 dX6_seek_46 rfl ?_
        refine s_iload_n (pc := 47) 1 dX6_seek_47 rfl ?_
        refine x_callV (M := MX6_seek) (L := [(6, b0, f0, s0), (0, b1, f1, s1)]) (h := h) (j := 0) (As := [.int x1]) (st := []) (A := fun (x : RS) => none) (Lc := [(6, b0, f0, s0)]) (Lr := fun (x : RS) => [(6, b0, f0, x)]) (L2 := fun (x : RS) => [(6, b0, f0, x), (0, b1, f1, s1)]) cv_X6_37 (by omega) (pc := 48) dX6_seek_48 ho rfl xc0_6 rfl rfl (Nat.le_of_ble_eq_true rfl) (xovs (L := [(6, b0, f0, s0), (0, b1, f1, s1)]) (h := h) [(0, (6, b0, f0, s0))] ho ⟨rfl, trivial⟩).1 (fun x => (xovs (L := [(6, b0, f0, s0), (0, b1, f1, s1)]) (h := h) [(0, (6, b0, f0, x))] ho ⟨rfl, trivial⟩).1) (fun x hx => pX6_keepBetter_ok (h := xw [(6, b0, f0, s0), (0, b1, f1, s1)] h) (f0 := f0) (xok_sub ho [0] rfl (by decide)) s0 x1 x hx) rfl (fun x13 _ => ?_)
        exact s_vret (pc := 51) dX6_seek_51 rfl (fun _ _ q => q)
      · refine s_aload_n (pc := 52) 2 dX6_seek_52 rfl ?_
        refine s_aload_n (pc := 53) 2 dX6_seek_53 rfl ?_
        refine xg_X6_9 0 ho rfl (pc := 54) dX6_seek_54 rfl hq_0_0 ?_
        refine s_iload_n (pc := 57) 3 dX6_seek_57 rfl ?_
        refine s_iload (pc := 58) 0 dX6_seek_58 rfl ?_
        refine x_callV (M := MX6_seek) (L := [(6, b0, f0, s0), (0, b1, f1, s1)]) (h := h) (j := 1) (As := [.int a0, .int x4]) (st := [.ref b0]) (A := fun (x : Int32) => some (.int x)) (Lc := [(0, b1, f1, s1)]) (Lr := fun (x : Int32) => [(0, b1, f1, s1)]) (L2 := fun (x : Int32) => [(6, b0, f0, s0), (0, b1, f1, s1)]) cv_X6_41 (by omega) (pc := 60) dX6_seek_60 ho rfl xc0_0 rfl rfl (Nat.le_of_ble_eq_true rfl) (xovs (L := [(6, b0, f0, s0), (0, b1, f1, s1)]) (h := h) [(1, (0, b1, f1, s1))] ho ⟨rfl, trivial⟩).1 (fun x => (xovs (L := [(6, b0, f0, s0), (0, b1, f1, s1)]) (h := h) [(1, (0, b1, f1, s1))] ho ⟨rfl, trivial⟩).1) (fun x hx => pX0_without_ok (h := xw [(6, b0, f0, s0), (0, b1, f1, s1)] h) (f0 := f1) (xok_sub ho [1] rfl (by decide)) s1 a0 x4 x hx) rfl (fun x5 _ => ?_)
        refine s_iload_n (pc := 63) 4 dX6_seek_63 rfl ?_
        refine s_iconst (v := 1) (pc := 64) dX6_seek_64 (by decide) ?_
        refine s_iadd (pc := 65) dX6_seek_65 ?_
        refine x_callV (M := MX6_seek) (L := [(6, b0, f0, s0), (0, b1, f1, s1)]) (h := h) (j := 0) (As := [.int x5, .int (a1 + (1 : Int32))]) (st := []) (A := fun (x : RS) => none) (Lc := [(6, b0, f0, s0), (0, b1, f1, s1)]) (Lr := fun (x : RS) => [(6, b0, f0, x), (0, b1, f1, s1)]) (L2 := fun (x : RS) => [(6, b0, f0, x), (0, b1, f1, s1)]) cv_X6_22 (by omega) (pc := 66) dX6_seek_66 ho rfl xc0_6 rfl rfl (Nat.le_of_ble_eq_true rfl) (xovs (L := [(6, b0, f0, s0), (0, b1, f1, s1)]) (h := h) [(0, (6, b0, f0, s0)), (1, (0, b1, f1, s1))] ho ⟨rfl, rfl, trivial⟩).1 (fun x => (xovs (L := [(6, b0, f0, s0), (0, b1, f1, s1)]) (h := h) [(0, (6, b0, f0, x)), (1, (0, b1, f1, s1))] ho ⟨rfl, rfl, trivial⟩).1) (fun x hx => hrc (xw [(6, b0, f0, s0), (0, b1, f1, s1)] h) (xok_sub ho [0, 1] rfl (by decide)) s0 s1 x5 (a1 + (1 : Int32)) x hx) rfl (fun x6 _ => ?_)
        refine s_aload_n (pc := 69) 2 dX6_seek_69 rfl ?_
        refine xg_X6_9 0 ho rfl (pc := 70) dX6_seek_70 rfl hq_0_0 ?_
        refine s_iload_n (pc := 73) 3 dX6_seek_73 rfl ?_
        refine s_iload (pc := 74) 0 dX6_seek_74 rfl ?_
        refine x_callV (M := MX6_seek) (L := [(6, b0, f0, x6), (0, b1, f1, s1)]) (h := h) (j := 1) (As := [.int a0, .int x4]) (st := []) (A := fun (x : Int32) => some (.int x)) (Lc := [(0, b1, f1, s1)]) (Lr := fun (x : Int32) => [(0, b1, f1, s1)]) (L2 := fun (x : Int32) => [(6, b0, f0, x6), (0, b1, f1, s1)]) cv_X6_45 (by omega) (pc := 76) dX6_seek_76 ho rfl xc0_0 rfl rfl (Nat.le_of_ble_eq_true rfl) (xovs (L := [(6, b0, f0, x6), (0, b1, f1, s1)]) (h := h) [(1, (0, b1, f1, s1))] ho ⟨rfl, trivial⟩).1 (fun x => (xovs (L := [(6, b0, f0, x6), (0, b1, f1, s1)]) (h := h) [(1, (0, b1, f1, s1))] ho ⟨rfl, trivial⟩).1) (fun x hx => pX0_quarrelersOf_ok (h := xw [(6, b0, f0, x6), (0, b1, f1, s1)] h) (f0 := f1) (xok_sub ho [1] rfl (by decide)) s1 a0 x4 x hx) rfl (fun x7 _ => ?_)
        refine s_istore (lv' := [(5, .int x7), (4, .int x4), (3, .int x1), (0, .ref b0), (1, .int a0), (2, .int a1)]) (pc := 79) dX6_seek_79 (by decide) rfl ?_
        refine s_iload_n (pc := 81) 4 dX6_seek_81 rfl ?_
        refine s_istore (lv' := [(6, .int a0), (5, .int x7), (4, .int x4), (3, .int x1), (0, .ref b0), (1, .int a0), (2, .int a1)]) (pc := 82) dX6_seek_82 (by decide) rfl ?_
        refine s_iconst (v := 0) (pc := 84) dX6_seek_84 (by decide) ?_
        refine s_istore (lv' := [(7, .int 0), (6, .int a0), (5, .int x7), (4, .int x4), (3, .int x1), (0, .ref b0), (1, .int a0), (2, .int a1)]) (pc := 85) dX6_seek_85 (by decide) rfl ?_
        refine s_bind (Ψ := X6_seek_x87 l n0 S0 dr h b0 b1 f0 f1 a1 x7 x6 s1) ?_ ?_
        · refine s_sub [5, 7, 2, 1, 0] rfl ?_
          exact s_loop (lvf := fun (q : Int32 × Int32) => [(0, .ref b0), (2, .int a1), (5, .int x7), (6, .int q.1), (7, .int q.2)]) (stf := fun _ => []) (hf := fun (q : Int32 × Int32) => xw [(6, b0, f0, x6), (0, b1, f1, s1)] h) (fun q => X6_seek_b87_ok ho hq_0_0 hrc a1 x7 q.1 q.2 x6 s1) FU (a0, (0 : Int32))
        · intro t11 z r h' hz hr
          refine (?_ : aS l (dr + 3) MX6_seek n0 S0 (oΦ (fun (x : RS) => (none, xw [(6, b0, f0, x), (0, b1, f1, s1)] h))) 128 [(0, .ref b0), (2, .int a1), (6, .int t11)] [] (xw [(6, b0, f0, x6), (0, b1, f1, s1)] h) _) z hz r h' hr
          refine s_aload_n (pc := 128) 0 dX6_seek_128 rfl ?_
          refine s_iload (pc := 129) 2 dX6_seek_129 rfl ?_
          refine s_iload_n (pc := 131) 1 dX6_seek_131 rfl ?_
          refine s_iconst (v := 1) (pc := 132) dX6_seek_132 (by decide) ?_
          refine s_iadd (pc := 133) dX6_seek_133 ?_
          refine x_callV (M := MX6_seek) (L := [(6, b0, f0, x6), (0, b1, f1, s1)]) (h := h) (j := 0) (As := [.int t11, .int (a1 + (1 : Int32))]) (st := []) (A := fun (x : RS) => none) (Lc := [(6, b0, f0, x6), (0, b1, f1, s1)]) (Lr := fun (x : RS) => [(6, b0, f0, x), (0, b1, f1, s1)]) (L2 := fun (x : RS) => [(6, b0, f0, x), (0, b1, f1, s1)]) cv_X6_22 (by omega) (pc := 134) dX6_seek_134 ho rfl xc0_6 rfl rfl (Nat.le_of_ble_eq_true rfl) (xovs (L := [(6, b0, f0, x6), (0, b1, f1, s1)]) (h := h) [(0, (6, b0, f0, x6)), (1, (0, b1, f1, s1))] ho ⟨rfl, rfl, trivial⟩).1 (fun x => (xovs (L := [(6, b0, f0, x6), (0, b1, f1, s1)]) (h := h) [(0, (6, b0, f0, x)), (1, (0, b1, f1, s1))] ho ⟨rfl, rfl, trivial⟩).1) (fun x hx => hrc (xw [(6, b0, f0, x6), (0, b1, f1, s1)] h) (xok_sub ho [0, 1] rfl (by decide)) x6 s1 t11 (a1 + (1 : Int32)) x hx) rfl (fun x12 _ => ?_)
          exact s_vret (pc := 137) dX6_seek_137 rfl (fun _ _ q => q)
    · exact s_vret (pc := 29) dX6_seek_29 rfl (fun _ _ q => q)
theorem pX6_seek_f_ok (ho : xok [(6, b0), (0, b1)] h.2.1) (hq_0_0 : f0 0 = some b1) {rc : RS → RS → Int32 → Int32 → Option RS} (hrc : ∀ (h : aH), xok [(6, b0), (0, b1)] h.2.1 → ∀ (s0 : RS) (s1 : RS) (a0 : Int32) (a1 : Int32)  x, rc s0 s1 a0 a1 = some x → aMet l dr yX6_seek cX6_seek 8 none [.ref b0, .int a0, .int a1] (xw [(6, b0, f0, s0), (0, b1, f1, s1)] h) none (xw [(6, b0, f0, x), (0, b1, f1, s1)] h)) (s0 : RS) (s1 : RS) (a0 : Int32) (a1 : Int32) : ∀ x, pX6_seek_f rc s0 s1 a0 a1 = some x → aMet l (dr + 3) yX6_seek cX6_seek 8 none [.ref b0, .int a0, .int a1] (xw [(6, b0, f0, s0), (0, b1, f1, s1)] h) none (xw [(6, b0, f0, x), (0, b1, f1, s1)] h) := fun x hx => a_meth (ini := false) (y := yX6_seek) (by decide +kernel) (fun q => by cases q) (fun _ => Nat.le_of_ble_eq_true rfl) (pX6_seek_f_w ho hq_0_0 hrc s0 s1 a0 a1) x hx _ _ ⟨rfl, rfl⟩
def pX6_seek : Nat → RS → RS → Int32 → Int32 → Option RS
  | 0 => fun _ _ _ _ => none
  | n + 1 => fun s0 s1 a0 a1 => pX6_seek_f (pX6_seek n) s0 s1 a0 a1
theorem pX6_seek_okr (hq_0_0 : f0 0 = some b1) : ∀ (n : Nat) (h : aH), xok [(6, b0), (0, b1)] h.2.1 → ∀ (s0 : RS) (s1 : RS) (a0 : Int32) (a1 : Int32) x, pX6_seek n s0 s1 a0 a1 = some x → aMet l (3 * n) yX6_seek cX6_seek 8 none [.ref b0, .int a0, .int a1] (xw [(6, b0, f0, s0), (0, b1, f1, s1)] h) none (xw [(6, b0, f0, x), (0, b1, f1, s1)] h)
  | 0 => fun _ _ _ _ _ _ x hx => by cases hx
  | n + 1 => fun h ho s0 s1 a0 a1 x hx => by
    have := pX6_seek_f_ok (dr := 3 * n) ho hq_0_0 (fun h1 ho1 => pX6_seek_okr hq_0_0 n h1 ho1) s0 s1 a0 a1 x hx
    exact this
theorem pX6_seek_ok (ho : xok [(6, b0), (0, b1)] h.2.1) (hq_0_0 : f0 0 = some b1) : ∀ (n : Nat) (s0 : RS) (s1 : RS) (a0 : Int32) (a1 : Int32) x, pX6_seek n s0 s1 a0 a1 = some x → aMet l (3 * n) yX6_seek cX6_seek 8 none [.ref b0, .int a0, .int a1] (xw [(6, b0, f0, s0), (0, b1, f1, s1)] h) none (xw [(6, b0, f0, x), (0, b1, f1, s1)] h) := fun n => pX6_seek_okr hq_0_0 n h ho
end
section
variable {l : Launch} {n0 S0 : Nat} {h : aH} {b0 b1 : Nat} {f0 f1 : Nat → Option Nat}
abbrev MX6_fewestOut : aM := (cX6_fewestOut, RX6, 1, (some .int), false)
def pX6_fewestOut (s0 : RS) (s1 : RS) : Option (Int32 × RS) :=
  (pX6_seek 20 s0 s1 (s0.1 1) (0 : Int32)).bind fun x1 =>
  some ((x1.1 2), x1)
theorem pX6_fewestOut_w (ho : xok [(6, b0), (0, b1)] h.2.1) (hq_0_0 : f0 0 = some b1) (s0 : RS) (s1 : RS) : aS l 61 MX6_fewestOut n0 S0 (oΦ (fun (x : Int32 × RS) => ((some (.int x.1)), xw [(6, b0, f0, x.2), (0, b1, f1, s1)] h))) 0 [(0, .ref b0)] [] (xw [(6, b0, f0, s0), (0, b1, f1, s1)] h) (pX6_fewestOut s0 s1) := by
  unfold pX6_fewestOut
  refine s_aload_n (pc := 0) 0 dX6_fewestOut_0 rfl ?_
  refine s_aload_n (pc := 1) 0 dX6_fewestOut_1 rfl ?_
  refine xg_X6_15 0 ho rfl (pc := 2) dX6_fewestOut_2 rfl ?_
  refine s_iconst (v := 0) (pc := 5) dX6_fewestOut_5 (by decide) ?_
  refine x_callV (M := MX6_fewestOut) (L := [(6, b0, f0, s0), (0, b1, f1, s1)]) (h := h) (j := 0) (As := [.int (s0.1 1), .int 0]) (st := []) (A := fun (x : RS) => none) (Lc := [(6, b0, f0, s0), (0, b1, f1, s1)]) (Lr := fun (x : RS) => [(6, b0, f0, x), (0, b1, f1, s1)]) (L2 := fun (x : RS) => [(6, b0, f0, x), (0, b1, f1, s1)]) cv_X6_22 (by decide) (pc := 6) dX6_fewestOut_6 ho rfl xc0_6 rfl rfl (Nat.le_of_ble_eq_true rfl) (xovs (L := [(6, b0, f0, s0), (0, b1, f1, s1)]) (h := h) [(0, (6, b0, f0, s0)), (1, (0, b1, f1, s1))] ho ⟨rfl, rfl, trivial⟩).1 (fun x => (xovs (L := [(6, b0, f0, s0), (0, b1, f1, s1)]) (h := h) [(0, (6, b0, f0, x)), (1, (0, b1, f1, s1))] ho ⟨rfl, rfl, trivial⟩).1) (fun x hx => pX6_seek_ok (h := xw [(6, b0, f0, s0), (0, b1, f1, s1)] h) (f0 := f0) (f1 := f1) (xok_sub ho [0, 1] rfl (by decide)) hq_0_0 20 s0 s1 (s0.1 1) (0 : Int32) x hx) rfl (fun x1 _ => ?_)
  refine s_aload_n (pc := 9) 0 dX6_fewestOut_9 rfl ?_
  refine xg_X6_19 0 ho rfl (pc := 10) dX6_fewestOut_10 rfl ?_
  exact s_iret (pc := 13) dX6_fewestOut_13 rfl (fun _ _ q => q)
theorem pX6_fewestOut_ok (ho : xok [(6, b0), (0, b1)] h.2.1) (hq_0_0 : f0 0 = some b1) (s0 : RS) (s1 : RS) : ∀ x, pX6_fewestOut s0 s1 = some x → aMet l 61 yX6_fewestOut cX6_fewestOut 1 (some .int) [.ref b0] (xw [(6, b0, f0, s0), (0, b1, f1, s1)] h) (some (.int x.1)) (xw [(6, b0, f0, x.2), (0, b1, f1, s1)] h) := fun x hx => a_meth (ini := false) (y := yX6_fewestOut) (by decide +kernel) (fun q => by cases q) (fun _ => Nat.le_of_ble_eq_true rfl) (pX6_fewestOut_w ho hq_0_0 s0 s1) x hx _ _ ⟨rfl, rfl⟩
end
section
variable {l : Launch} {n0 S0 : Nat} {h : aH} {b0 b1 b2 : Nat} {f0 f1 f2 : Nat → Option Nat}
abbrev MX1_isNewName : aM := (cX1_isNewName, RX1, 4, (some .boolean), false)
def X1_isNewName_j55 (k0 : Bool) (s0 : RS) (s1 : RS) (s2 : RS) : Option (Bool × RS) :=
  if k0 = true then
    (pX8_blame s1 (3 : Int32)).bind fun x4 =>
    if x4.1 = true then
      some (true, x4.2)
    else
      some (false, x4.2)
  else
    some (true, s1)
theorem X1_isNewName_j55_ok (ho : xok [(1, b0), (8, b1), (0, b2)] h.2.1) (hq_0_0 : f0 0 = some b1) (hq_0_1 : f0 1 = some b2) (k0 : Bool) (s0 : RS) (s1 : RS) (s2 : RS) : aS l 1 MX1_isNewName n0 S0 (oΦ (fun (x : Bool × RS) => ((some (.int (b2i x.1))), xw [(1, b0, f0, s0), (8, b1, f1, x.2), (0, b2, f2, s2)] h))) 55 [(0, .ref b0)] [.int (b2i k0)] (xw [(1, b0, f0, s0), (8, b1, f1, s1), (0, b2, f2, s2)] h) (X1_isNewName_j55 k0 s0 s1 s2) := by
  unfold X1_isNewName_j55
  refine s_istore_n (lv' := [(3, .int (b2i k0)), (0, .ref b0)]) (pc := 55) dX1_isNewName_55 (by decide) rfl ?_
  refine s_iload_n (pc := 56) 0 dX1_isNewName_56 rfl ?_
  refine s_if_eqB (tgt := 71) (pc := 57) dX1_isNewName_57 (by decide) (fun _ => ?_) (fun _ => ?_)
  · refine s_aload_n (pc := 60) 1 dX1_isNewName_60 rfl ?_
    refine xg_X1_18 0 ho rfl (pc := 61) dX1_isNewName_61 rfl hq_0_0 ?_
    refine s_iconst (v := 3) (pc := 64) dX1_isNewName_64 (by decide) ?_
    refine x_callV (M := MX1_isNewName) (L := [(1, b0, f0, s0), (8, b1, f1, s1), (0, b2, f2, s2)]) (h := h) (j := 1) (As := [.int 3]) (st := []) (A := fun (x : Bool × RS) => some (.int (b2i x.1))) (Lc := [(8, b1, f1, s1)]) (Lr := fun (x : Bool × RS) => [(8, b1, f1, x.2)]) (L2 := fun (x : Bool × RS) => [(1, b0, f0, s0), (8, b1, f1, x.2), (0, b2, f2, s2)]) cv_X1_46 (by decide) (pc := 65) dX1_isNewName_65 ho rfl xc0_8 rfl rfl (Nat.le_of_ble_eq_true rfl) (xovs (L := [(1, b0, f0, s0), (8, b1, f1, s1), (0, b2, f2, s2)]) (h := h) [(1, (8, b1, f1, s1))] ho ⟨rfl, trivial⟩).1 (fun x => (xovs (L := [(1, b0, f0, s0), (8, b1, f1, s1), (0, b2, f2, s2)]) (h := h) [(1, (8, b1, f1, x.2))] ho ⟨rfl, trivial⟩).1) (fun x hx => pX8_blame_ok (h := xw [(1, b0, f0, s0), (8, b1, f1, s1), (0, b2, f2, s2)] h) (f0 := f1) (xok_sub ho [1] rfl (by decide)) s1 (3 : Int32) x hx) rfl (fun x4 _ => ?_)
    refine s_if_eqB (tgt := 75) (pc := 68) dX1_isNewName_68 (by decide) (fun _ => ?_) (fun _ => ?_)
    · refine s_iconst (v := 1) (pc := 71) dX1_isNewName_71 (by decide) ?_
      refine s_goto (tgt := 76) (pc := 72) dX1_isNewName_72 (by decide) ?_
      exact s_zretB (b := true) (pc := 76) dX1_isNewName_76 rfl (fun _ _ q => q)
    · refine s_iconst (v := 0) (pc := 75) dX1_isNewName_75 (by decide) ?_
      exact s_zretB (b := false) (pc := 76) dX1_isNewName_76 rfl (fun _ _ q => q)
  · refine s_iconst (v := 1) (pc := 71) dX1_isNewName_71 (by decide) ?_
    refine s_goto (tgt := 76) (pc := 72) dX1_isNewName_72 (by decide) ?_
    exact s_zretB (b := true) (pc := 76) dX1_isNewName_76 rfl (fun _ _ q => q)
def X1_isNewName_j50 (s0 : RS) (s1 : RS) (s2 : RS) : Option (Bool × RS) :=
  X1_isNewName_j55 true s0 s1 s2
theorem X1_isNewName_j50_ok (ho : xok [(1, b0), (8, b1), (0, b2)] h.2.1) (hq_0_0 : f0 0 = some b1) (hq_0_1 : f0 1 = some b2) (s0 : RS) (s1 : RS) (s2 : RS) : aS l 1 MX1_isNewName n0 S0 (oΦ (fun (x : Bool × RS) => ((some (.int (b2i x.1))), xw [(1, b0, f0, s0), (8, b1, f1, x.2), (0, b2, f2, s2)] h))) 50 [(0, .ref b0)] [] (xw [(1, b0, f0, s0), (8, b1, f1, s1), (0, b2, f2, s2)] h) (X1_isNewName_j50 s0 s1 s2) := by
  unfold X1_isNewName_j50
  refine s_iconst (v := 1) (pc := 50) dX1_isNewName_50 (by decide) ?_
  refine s_goto (tgt := 55) (pc := 51) dX1_isNewName_51 (by decide) ?_
  exact X1_isNewName_j55_ok ho hq_0_0 hq_0_1 true s0 s1 s2
def pX1_isNewName (s0 : RS) (s1 : RS) (s2 : RS) : Option (Bool × RS) :=
  (pX8_isName s1).bind fun x1 =>
  if x1 = true then
    (pX8_nameHere s1).bind fun x2 =>
    (pX0_findIsland s2 x2).bind fun x3 =>
    if x3 = (-1 : Int32) then
      (pX0_findChange s2 x2).bind fun x5 =>
      if x5 = (-1 : Int32) then
        X1_isNewName_j55 false s0 s1 s2
      else
        X1_isNewName_j50 s0 s1 s2
    else
      X1_isNewName_j50 s0 s1 s2
  else
    (pX8_blameToken s1).bind fun x6 =>
    some (x6.1, x6.2)
theorem pX1_isNewName_w (ho : xok [(1, b0), (8, b1), (0, b2)] h.2.1) (hq_0_0 : f0 0 = some b1) (hq_0_1 : f0 1 = some b2) (s0 : RS) (s1 : RS) (s2 : RS) : aS l 1 MX1_isNewName n0 S0 (oΦ (fun (x : Bool × RS) => ((some (.int (b2i x.1))), xw [(1, b0, f0, s0), (8, b1, f1, x.2), (0, b2, f2, s2)] h))) 0 [(0, .ref b0)] [] (xw [(1, b0, f0, s0), (8, b1, f1, s1), (0, b2, f2, s2)] h) (pX1_isNewName s0 s1 s2) := by
  unfold pX1_isNewName
  refine s_aload_n (pc := 0) 0 dX1_isNewName_0 rfl ?_
  refine xg_X1_18 0 ho rfl (pc := 1) dX1_isNewName_1 rfl hq_0_0 ?_
  refine x_callV (M := MX1_isNewName) (L := [(1, b0, f0, s0), (8, b1, f1, s1), (0, b2, f2, s2)]) (h := h) (j := 1) (As := []) (st := []) (A := fun (x : Bool) => some (.int (b2i x))) (Lc := [(8, b1, f1, s1)]) (Lr := fun (x : Bool) => [(8, b1, f1, s1)]) (L2 := fun (x : Bool) => [(1, b0, f0, s0), (8, b1, f1, s1), (0, b2, f2, s2)]) cv_X1_67 (by decide) (pc := 4) dX1_isNewName_4 ho rfl xc0_8 rfl rfl (Nat.le_of_ble_eq_true rfl) (xovs (L := [(1, b0, f0, s0), (8, b1, f1, s1), (0, b2, f2, s2)]) (h := h) [(1, (8, b1, f1, s1))] ho ⟨rfl, trivial⟩).1 (fun x => (xovs (L := [(1, b0, f0, s0), (8, b1, f1, s1), (0, b2, f2, s2)]) (h := h) [(1, (8, b1, f1, s1))] ho ⟨rfl, trivial⟩).1) (fun x hx => pX8_isName_ok (h := xw [(1, b0, f0, s0), (8, b1, f1, s1), (0, b2, f2, s2)] h) (f0 := f1) (xok_sub ho [1] rfl (by decide)) s1 x hx) rfl (fun x1 _ => ?_)
  refine s_if_neB (tgt := 18) (pc := 7) dX1_isNewName_7 (by decide) (fun _ => ?_) (fun _ => ?_)
  · refine s_aload_n (pc := 18) 0 dX1_isNewName_18 rfl ?_
    refine xg_X1_18 0 ho rfl (pc := 19) dX1_isNewName_19 rfl hq_0_0 ?_
    refine x_callV (M := MX1_isNewName) (L := [(1, b0, f0, s0), (8, b1, f1, s1), (0, b2, f2, s2)]) (h := h) (j := 1) (As := []) (st := []) (A := fun (x : Int64) => some (.long x)) (Lc := [(8, b1, f1, s1)]) (Lr := fun (x : Int64) => [(8, b1, f1, s1)]) (L2 := fun (x : Int64) => [(1, b0, f0, s0), (8, b1, f1, s1), (0, b2, f2, s2)]) cv_X1_56 (by decide) (pc := 22) dX1_isNewName_22 ho rfl xc0_8 rfl rfl (Nat.le_of_ble_eq_true rfl) (xovs (L := [(1, b0, f0, s0), (8, b1, f1, s1), (0, b2, f2, s2)]) (h := h) [(1, (8, b1, f1, s1))] ho ⟨rfl, trivial⟩).1 (fun x => (xovs (L := [(1, b0, f0, s0), (8, b1, f1, s1), (0, b2, f2, s2)]) (h := h) [(1, (8, b1, f1, s1))] ho ⟨rfl, trivial⟩).1) (fun x hx => pX8_nameHere_ok (h := xw [(1, b0, f0, s0), (8, b1, f1, s1), (0, b2, f2, s2)] h) (f0 := f1) (xok_sub ho [1] rfl (by decide)) s1 x hx) rfl (fun x2 _ => ?_)
    refine s_lstore_n (lv' := [(1, .long x2), (0, .ref b0)]) (pc := 25) dX1_isNewName_25 (by decide) rfl ?_
    refine s_aload_n (pc := 26) 1 dX1_isNewName_26 rfl ?_
    refine xg_X1_12 0 ho rfl (pc := 27) dX1_isNewName_27 rfl hq_0_1 ?_
    refine s_lload_n (pc := 30) 0 dX1_isNewName_30 rfl ?_
    refine x_callV (M := MX1_isNewName) (L := [(1, b0, f0, s0), (8, b1, f1, s1), (0, b2, f2, s2)]) (h := h) (j := 2) (As := [.long x2]) (st := []) (A := fun (x : Int32) => some (.int x)) (Lc := [(0, b2, f2, s2)]) (Lr := fun (x : Int32) => [(0, b2, f2, s2)]) (L2 := fun (x : Int32) => [(1, b0, f0, s0), (8, b1, f1, s1), (0, b2, f2, s2)]) cv_X1_73 (by decide) (pc := 31) dX1_isNewName_31 ho rfl xc0_0 rfl rfl (Nat.le_of_ble_eq_true rfl) (xovs (L := [(1, b0, f0, s0), (8, b1, f1, s1), (0, b2, f2, s2)]) (h := h) [(2, (0, b2, f2, s2))] ho ⟨rfl, trivial⟩).1 (fun x => (xovs (L := [(1, b0, f0, s0), (8, b1, f1, s1), (0, b2, f2, s2)]) (h := h) [(2, (0, b2, f2, s2))] ho ⟨rfl, trivial⟩).1) (fun x hx => pX0_findIsland_ok (h := xw [(1, b0, f0, s0), (8, b1, f1, s1), (0, b2, f2, s2)] h) (f0 := f2) (xok_sub ho [2] rfl (by decide)) s2 x2 x hx) rfl (fun x3 _ => ?_)
    refine s_iconst (v := (-1)) (pc := 34) dX1_isNewName_34 (by decide) ?_
    refine s_icmp_ne (tgt := 50) (pc := 35) dX1_isNewName_35 (by decide) (fun _ => ?_) (fun _ => ?_)
    · refine s_aload_n (pc := 38) 1 dX1_isNewName_38 rfl ?_
      refine xg_X1_12 0 ho rfl (pc := 39) dX1_isNewName_39 rfl hq_0_1 ?_
      refine s_lload_n (pc := 42) 0 dX1_isNewName_42 rfl ?_
      refine x_callV (M := MX1_isNewName) (L := [(1, b0, f0, s0), (8, b1, f1, s1), (0, b2, f2, s2)]) (h := h) (j := 2) (As := [.long x2]) (st := []) (A := fun (x : Int32) => some (.int x)) (Lc := [(0, b2, f2, s2)]) (Lr := fun (x : Int32) => [(0, b2, f2, s2)]) (L2 := fun (x : Int32) => [(1, b0, f0, s0), (8, b1, f1, s1), (0, b2, f2, s2)]) cv_X1_77 (by decide) (pc := 43) dX1_isNewName_43 ho rfl xc0_0 rfl rfl (Nat.le_of_ble_eq_true rfl) (xovs (L := [(1, b0, f0, s0), (8, b1, f1, s1), (0, b2, f2, s2)]) (h := h) [(2, (0, b2, f2, s2))] ho ⟨rfl, trivial⟩).1 (fun x => (xovs (L := [(1, b0, f0, s0), (8, b1, f1, s1), (0, b2, f2, s2)]) (h := h) [(2, (0, b2, f2, s2))] ho ⟨rfl, trivial⟩).1) (fun x hx => pX0_findChange_ok (h := xw [(1, b0, f0, s0), (8, b1, f1, s1), (0, b2, f2, s2)] h) (f0 := f2) (xok_sub ho [2] rfl (by decide)) s2 x2 x hx) rfl (fun x5 _ => ?_)
      refine s_iconst (v := (-1)) (pc := 46) dX1_isNewName_46 (by decide) ?_
      refine s_icmp_eq (tgt := 54) (pc := 47) dX1_isNewName_47 (by decide) (fun _ => ?_) (fun _ => ?_)
      · refine s_iconst (v := 0) (pc := 54) dX1_isNewName_54 (by decide) ?_
        refine s_sub [1] rfl ?_
        exact X1_isNewName_j55_ok ho hq_0_0 hq_0_1 false s0 s1 s2
      · refine s_sub [1] rfl ?_
        exact X1_isNewName_j50_ok ho hq_0_0 hq_0_1 s0 s1 s2
    · refine s_sub [1] rfl ?_
      exact X1_isNewName_j50_ok ho hq_0_0 hq_0_1 s0 s1 s2
  · refine s_aload_n (pc := 10) 0 dX1_isNewName_10 rfl ?_
    refine xg_X1_18 0 ho rfl (pc := 11) dX1_isNewName_11 rfl hq_0_0 ?_
    refine x_callV (M := MX1_isNewName) (L := [(1, b0, f0, s0), (8, b1, f1, s1), (0, b2, f2, s2)]) (h := h) (j := 1) (As := []) (st := []) (A := fun (x : Bool × RS) => some (.int (b2i x.1))) (Lc := [(8, b1, f1, s1)]) (Lr := fun (x : Bool × RS) => [(8, b1, f1, x.2)]) (L2 := fun (x : Bool × RS) => [(1, b0, f0, s0), (8, b1, f1, x.2), (0, b2, f2, s2)]) cv_X1_70 (by decide) (pc := 14) dX1_isNewName_14 ho rfl xc0_8 rfl rfl (Nat.le_of_ble_eq_true rfl) (xovs (L := [(1, b0, f0, s0), (8, b1, f1, s1), (0, b2, f2, s2)]) (h := h) [(1, (8, b1, f1, s1))] ho ⟨rfl, trivial⟩).1 (fun x => (xovs (L := [(1, b0, f0, s0), (8, b1, f1, s1), (0, b2, f2, s2)]) (h := h) [(1, (8, b1, f1, x.2))] ho ⟨rfl, trivial⟩).1) (fun x hx => pX8_blameToken_ok (h := xw [(1, b0, f0, s0), (8, b1, f1, s1), (0, b2, f2, s2)] h) (f0 := f1) (xok_sub ho [1] rfl (by decide)) s1 x hx) rfl (fun x6 _ => ?_)
    exact s_zretB (b := x6.1) (pc := 17) dX1_isNewName_17 rfl (fun _ _ q => q)
theorem pX1_isNewName_ok (ho : xok [(1, b0), (8, b1), (0, b2)] h.2.1) (hq_0_0 : f0 0 = some b1) (hq_0_1 : f0 1 = some b2) (s0 : RS) (s1 : RS) (s2 : RS) : ∀ x, pX1_isNewName s0 s1 s2 = some x → aMet l 1 yX1_isNewName cX1_isNewName 4 (some .boolean) [.ref b0] (xw [(1, b0, f0, s0), (8, b1, f1, s1), (0, b2, f2, s2)] h) (some (.int (b2i x.1))) (xw [(1, b0, f0, s0), (8, b1, f1, x.2), (0, b2, f2, s2)] h) := fun x hx => a_meth (ini := false) (y := yX1_isNewName) (by decide +kernel) (fun q => by cases q) (fun _ => Nat.le_of_ble_eq_true rfl) (pX1_isNewName_w ho hq_0_0 hq_0_1 s0 s1 s2) x hx _ _ ⟨rfl, rfl⟩
end
section
variable {l : Launch} {n0 S0 : Nat} {h : aH}
abbrev MX1_kindOf : aM := (cX1_kindOf, RX1, 1, (some .int), false)
def pX1_kindOf (a0 : Int32) : Option Int32 :=
  if a0 = 1 then
    some (0 : Int32)
  else
    if a0 = 2 then
      some (-1 : Int32)
    else
      if a0 = 3 then
        some (-1 : Int32)
      else
        if a0 = 4 then
          some (1 : Int32)
        else
          if a0 = 5 then
            some (-1 : Int32)
          else
            if a0 = 6 then
              some (2 : Int32)
            else
              if a0 = 7 then
                some (3 : Int32)
              else
                if a0 = 8 then
                  some (4 : Int32)
                else
                  some (-1 : Int32)
theorem pX1_kindOf_w (a0 : Int32) : aS l 0 MX1_kindOf n0 S0 (oΦ (fun (x : Int32) => ((some (.int x)), h))) 0 [(0, .int a0)] [] (h) (pX1_kindOf a0) := by
  unfold pX1_kindOf
  refine s_iload_n (pc := 0) 0 dX1_kindOf_0 rfl ?_
  refine s_case (c := a0 = 1) (fun c0 => ?_) (fun n1 => ?_)
  · refine s_tabIn (tgt := 48) (off := 47) (pc := 1) dX1_kindOf_1 (by rw [c0]; decide) (by rw [c0]; decide) (by rw [c0]; rfl) (by decide) ?_
    refine s_iconst (v := 0) (pc := 48) dX1_kindOf_48 (by decide) ?_
    exact s_iret (pc := 49) dX1_kindOf_49 rfl (fun _ _ q => q)
  · refine s_case (c := a0 = 2) (fun c0 => ?_) (fun n2 => ?_)
    · refine s_tabIn (tgt := 58) (off := 57) (pc := 1) dX1_kindOf_1 (by rw [c0]; decide) (by rw [c0]; decide) (by rw [c0]; rfl) (by decide) ?_
      refine s_iconst (v := (-1)) (pc := 58) dX1_kindOf_58 (by decide) ?_
      exact s_iret (pc := 59) dX1_kindOf_59 rfl (fun _ _ q => q)
    · refine s_case (c := a0 = 3) (fun c0 => ?_) (fun n3 => ?_)
      · refine s_tabIn (tgt := 58) (off := 57) (pc := 1) dX1_kindOf_1 (by rw [c0]; decide) (by rw [c0]; decide) (by rw [c0]; rfl) (by decide) ?_
        refine s_iconst (v := (-1)) (pc := 58) dX1_kindOf_58 (by decide) ?_
        exact s_iret (pc := 59) dX1_kindOf_59 rfl (fun _ _ q => q)
      · refine s_case (c := a0 = 4) (fun c0 => ?_) (fun n4 => ?_)
        · refine s_tabIn (tgt := 50) (off := 49) (pc := 1) dX1_kindOf_1 (by rw [c0]; decide) (by rw [c0]; decide) (by rw [c0]; rfl) (by decide) ?_
          refine s_iconst (v := 1) (pc := 50) dX1_kindOf_50 (by decide) ?_
          exact s_iret (pc := 51) dX1_kindOf_51 rfl (fun _ _ q => q)
        · refine s_case (c := a0 = 5) (fun c0 => ?_) (fun n5 => ?_)
          · refine s_tabIn (tgt := 58) (off := 57) (pc := 1) dX1_kindOf_1 (by rw [c0]; decide) (by rw [c0]; decide) (by rw [c0]; rfl) (by decide) ?_
            refine s_iconst (v := (-1)) (pc := 58) dX1_kindOf_58 (by decide) ?_
            exact s_iret (pc := 59) dX1_kindOf_59 rfl (fun _ _ q => q)
          · refine s_case (c := a0 = 6) (fun c0 => ?_) (fun n6 => ?_)
            · refine s_tabIn (tgt := 52) (off := 51) (pc := 1) dX1_kindOf_1 (by rw [c0]; decide) (by rw [c0]; decide) (by rw [c0]; rfl) (by decide) ?_
              refine s_iconst (v := 2) (pc := 52) dX1_kindOf_52 (by decide) ?_
              exact s_iret (pc := 53) dX1_kindOf_53 rfl (fun _ _ q => q)
            · refine s_case (c := a0 = 7) (fun c0 => ?_) (fun n7 => ?_)
              · refine s_tabIn (tgt := 54) (off := 53) (pc := 1) dX1_kindOf_1 (by rw [c0]; decide) (by rw [c0]; decide) (by rw [c0]; rfl) (by decide) ?_
                refine s_iconst (v := 3) (pc := 54) dX1_kindOf_54 (by decide) ?_
                exact s_iret (pc := 55) dX1_kindOf_55 rfl (fun _ _ q => q)
              · refine s_case (c := a0 = 8) (fun c0 => ?_) (fun n8 => ?_)
                · refine s_tabIn (tgt := 56) (off := 55) (pc := 1) dX1_kindOf_1 (by rw [c0]; decide) (by rw [c0]; decide) (by rw [c0]; rfl) (by decide) ?_
                  refine s_iconst (v := 4) (pc := 56) dX1_kindOf_56 (by decide) ?_
                  exact s_iret (pc := 57) dX1_kindOf_57 rfl (fun _ _ q => q)
                · refine s_tabOut (tgt := 58) (pc := 1) dX1_kindOf_1 (sw_out (fun i h1 h2 => by
                    have hi : i = 1 ∨ i = 2 ∨ i = 3 ∨ i = 4 ∨ i = 5 ∨ i = 6 ∨ i = 7 ∨ i = 8 := by omega
                    rcases hi with rfl | rfl | rfl | rfl | rfl | rfl | rfl | rfl
                    · exact fun q => n1 (q.trans (by decide))
                    · exact fun q => n2 (q.trans (by decide))
                    · exact fun q => n3 (q.trans (by decide))
                    · exact fun q => n4 (q.trans (by decide))
                    · exact fun q => n5 (q.trans (by decide))
                    · exact fun q => n6 (q.trans (by decide))
                    · exact fun q => n7 (q.trans (by decide))
                    · exact fun q => n8 (q.trans (by decide)))) (by decide) ?_
                  refine s_iconst (v := (-1)) (pc := 58) dX1_kindOf_58 (by decide) ?_
                  exact s_iret (pc := 59) dX1_kindOf_59 rfl (fun _ _ q => q)
theorem pX1_kindOf_ok (a0 : Int32) : ∀ x, pX1_kindOf a0 = some x → aMet l 0 yX1_kindOf cX1_kindOf 1 (some .int) [.int a0] (h) (some (.int x)) (h) := fun x hx => a_meth (ini := false) (y := yX1_kindOf) (by decide +kernel) (fun q => by cases q) (fun _ => Nat.le_of_ble_eq_true rfl) (pX1_kindOf_w a0) x hx _ _ ⟨rfl, rfl⟩
end
section
variable {l : Launch} {n0 S0 : Nat} {h : aH} {b0 b1 b2 : Nat} {f0 f1 f2 : Nat → Option Nat}
abbrev MX1_readAfter : aM := (cX1_readAfter, RX1, 5, (some .boolean), false)
def X1_readAfter_x25 (l : Launch) (n0 S0 : Nat) (h : aH) (b0 : Nat) (b1 : Nat) (b2 : Nat) (f0 : Nat → Option Nat) (f1 : Nat → Option Nat) (f2 : Nat → Option Nat) (v1 : Int32) (s0 : RS) (s2 : RS) : (RS ⊕ (RS ⊕ ((Int32 × RS) ⊕ (Int32 × RS)))) → Option Value → aH → Prop := Sum.elim (fun (x : RS) (r : Option Value) (h' : aH) => aEv l 2 MX1_readAfter n0 S0 50 [] [] (xw [(1, b0, f0, s0), (8, b1, f1, x), (0, b2, f2, s2)] h) r h') (Sum.elim (fun (x : RS) (r : Option Value) (h' : aH) => aEv l 2 MX1_readAfter n0 S0 61 [(0, .ref b0)] [] (xw [(1, b0, f0, s0), (8, b1, f1, x), (0, b2, f2, s2)] h) r h') (Sum.elim (fun (x : Int32 × RS) (r : Option Value) (h' : aH) => aEv l 2 MX1_readAfter n0 S0 96 [(0, .ref b0), (1, .int v1), (2, .int x.1)] [] (xw [(1, b0, f0, s0), (8, b1, f1, x.2), (0, b2, f2, s2)] h) r h') (fun (x : Int32 × RS) (r : Option Value) (h' : aH) => aEv l 2 MX1_readAfter n0 S0 105 [(0, .ref b0), (1, .int v1), (2, .int x.1)] [] (xw [(1, b0, f0, s0), (8, b1, f1, x.2), (0, b2, f2, s2)] h) r h')))
def X1_readAfter_b25 (v1 : Int32) (v2 : Int32) (v3 : Int32) (s0 : RS) (s1 : RS) (s2 : RS) : Option ((Int32 × Int32 × RS) ⊕ (RS ⊕ (RS ⊕ ((Int32 × RS) ⊕ (Int32 × RS))))) :=
  if (16 : Int32) < v3 then
    some (.inr (.inr (.inr (.inr (v2, s1)))))
  else
    (pX8_changeHere s1 s2).bind fun x3 =>
    if x3.1 = (-1 : Int32) then
      some (.inr (.inl x3.2))
    else
      (pX0_isIn v2 x3.1).bind fun x4 =>
      if x4 = true then
        some (.inr (.inr (.inl x3.2)))
      else
        thn (v2 ||| ((1 : Int32) <<< (x3.1 &&& 31))) fun x5 =>
        (pX8_advance x3.2).bind fun x6 =>
        (pX8_kindHere x6).bind fun x7 =>
        if x7 = (31 : Int32) then
          some (.inr (.inr (.inr (.inl (x5, x6)))))
        else
          thn (v3 + 1) fun x8 =>
          some (.inl (x5, x8, x6))
theorem X1_readAfter_b25_ok (ho : xok [(1, b0), (8, b1), (0, b2)] h.2.1) (hq_0_0 : f0 0 = some b1) (hq_0_1 : f0 1 = some b2) (v1 : Int32) (v2 : Int32) (v3 : Int32) (s0 : RS) (s1 : RS) (s2 : RS) : aS l 2 MX1_readAfter n0 S0 (a_LΦ (X1_readAfter_x25 l n0 S0 h b0 b1 b2 f0 f1 f2 v1 s0 s2) l 2 MX1_readAfter n0 S0 25 (fun (q : Int32 × Int32 × RS) => [(0, .ref b0), (1, .int v1), (2, .int q.1), (3, .int q.2.1)]) (fun _ => []) (fun (q : Int32 × Int32 × RS) => xw [(1, b0, f0, s0), (8, b1, f1, q.2.2), (0, b2, f2, s2)] h)) 25 [(0, .ref b0), (1, .int v1), (2, .int v2), (3, .int v3)] [] (xw [(1, b0, f0, s0), (8, b1, f1, s1), (0, b2, f2, s2)] h) (X1_readAfter_b25 v1 v2 v3 s0 s1 s2) := by
  unfold X1_readAfter_b25
  refine s_iload_n (pc := 25) 3 dX1_readAfter_25 rfl ?_
  refine s_bipush (v := 16) (pc := 26) dX1_readAfter_26 (by decide) ?_
  refine s_icmp_gt (tgt := 105) (pc := 28) dX1_readAfter_28 (by decide) (fun _ => ?_) (fun _ => ?_)
  · refine s_sub [0, 1, 2] rfl ?_
    exact s_ev (fun _ _ q => q)
  · refine s_aload_n (pc := 31) 0 dX1_readAfter_31 rfl ?_
    refine xg_X1_18 0 ho rfl (pc := 32) dX1_readAfter_32 rfl hq_0_0 ?_
    refine s_aload_n (pc := 35) 0 dX1_readAfter_35 rfl ?_
    refine xg_X1_12 0 ho rfl (pc := 36) dX1_readAfter_36 rfl hq_0_1 ?_
    refine x_callV (M := MX1_readAfter) (L := [(1, b0, f0, s0), (8, b1, f1, s1), (0, b2, f2, s2)]) (h := h) (j := 1) (As := [.ref b2]) (st := []) (A := fun (x : Int32 × RS) => some (.int x.1)) (Lc := [(8, b1, f1, s1), (0, b2, f2, s2)]) (Lr := fun (x : Int32 × RS) => [(8, b1, f1, x.2), (0, b2, f2, s2)]) (L2 := fun (x : Int32 × RS) => [(1, b0, f0, s0), (8, b1, f1, x.2), (0, b2, f2, s2)]) cv_X1_130 (by decide) (pc := 39) dX1_readAfter_39 ho rfl xc0_8 rfl rfl (Nat.le_of_ble_eq_true rfl) (xovs (L := [(1, b0, f0, s0), (8, b1, f1, s1), (0, b2, f2, s2)]) (h := h) [(1, (8, b1, f1, s1)), (2, (0, b2, f2, s2))] ho ⟨rfl, rfl, trivial⟩).1 (fun x => (xovs (L := [(1, b0, f0, s0), (8, b1, f1, s1), (0, b2, f2, s2)]) (h := h) [(1, (8, b1, f1, x.2)), (2, (0, b2, f2, s2))] ho ⟨rfl, rfl, trivial⟩).1) (fun x hx => pX8_changeHere_ok (h := xw [(1, b0, f0, s0), (8, b1, f1, s1), (0, b2, f2, s2)] h) (f0 := f1) (f1 := f2) (xok_sub ho [1, 2] rfl (by decide)) s1 s2 x hx) rfl (fun x3 _ => ?_)
    refine s_istore (lv' := [(4, .int x3.1), (0, .ref b0), (1, .int v1), (2, .int v2), (3, .int v3)]) (pc := 42) dX1_readAfter_42 (by decide) rfl ?_
    refine s_iload (pc := 44) 0 dX1_readAfter_44 rfl ?_
    refine s_iconst (v := (-1)) (pc := 46) dX1_readAfter_46 (by decide) ?_
    refine s_icmp_ne (tgt := 52) (pc := 47) dX1_readAfter_47 (by decide) (fun _ => ?_) (fun _ => ?_)
    · refine s_sub [] rfl ?_
      exact s_ev (fun _ _ q => q)
    · refine s_iload_n (pc := 52) 3 dX1_readAfter_52 rfl ?_
      refine s_iload (pc := 53) 0 dX1_readAfter_53 rfl ?_
      refine s_callS (M := MX1_readAfter) (As := [.int v2, .int x3.1]) (st := []) (Ψ := fun (x : Bool) => (some (.int (b2i x)), xw [(1, b0, f0, s0), (8, b1, f1, x3.2), (0, b2, f2, s2)] h)) cs_X1_140 (by decide) (pc := 55) dX1_readAfter_55 rfl (Nat.le_of_ble_eq_true rfl) (fun x hx => pX0_isIn_ok v2 x3.1 x hx) rfl (fun x4 _ => ?_)
      refine s_if_eqB (tgt := 70) (pc := 58) dX1_readAfter_58 (by decide) (fun _ => ?_) (fun _ => ?_)
      · refine s_sub [1] rfl ?_
        exact s_ev (fun _ _ q => q)
      · refine s_iload_n (pc := 70) 3 dX1_readAfter_70 rfl ?_
        refine s_iconst (v := 1) (pc := 71) dX1_readAfter_71 (by decide) ?_
        refine s_iload (pc := 72) 0 dX1_readAfter_72 rfl ?_
        refine s_ishl (pc := 74) dX1_readAfter_74 ?_
        refine s_ior (pc := 75) dX1_readAfter_75 ?_
        refine s_istore_nT (lv' := fun x5 => [(2, .int x5), (4, .int x3.1), (0, .ref b0), (1, .int v1), (3, .int v3)]) (pc := 76) dX1_readAfter_76 (by decide) (fun _ => rfl) (fun x5 => ?_)
        refine s_aload_n (pc := 77) 2 dX1_readAfter_77 rfl ?_
        refine xg_X1_18 0 ho rfl (pc := 78) dX1_readAfter_78 rfl hq_0_0 ?_
        refine x_callV (M := MX1_readAfter) (L := [(1, b0, f0, s0), (8, b1, f1, x3.2), (0, b2, f2, s2)]) (h := h) (j := 1) (As := []) (st := []) (A := fun (x : RS) => none) (Lc := [(8, b1, f1, x3.2)]) (Lr := fun (x : RS) => [(8, b1, f1, x)]) (L2 := fun (x : RS) => [(1, b0, f0, s0), (8, b1, f1, x), (0, b2, f2, s2)]) cv_X1_50 (by decide) (pc := 81) dX1_readAfter_81 ho rfl xc0_8 rfl rfl (Nat.le_of_ble_eq_true rfl) (xovs (L := [(1, b0, f0, s0), (8, b1, f1, x3.2), (0, b2, f2, s2)]) (h := h) [(1, (8, b1, f1, x3.2))] ho ⟨rfl, trivial⟩).1 (fun x => (xovs (L := [(1, b0, f0, s0), (8, b1, f1, x3.2), (0, b2, f2, s2)]) (h := h) [(1, (8, b1, f1, x))] ho ⟨rfl, trivial⟩).1) (fun x hx => pX8_advance_ok (h := xw [(1, b0, f0, s0), (8, b1, f1, x3.2), (0, b2, f2, s2)] h) (f0 := f1) (xok_sub ho [1] rfl (by decide)) x3.2 x hx) rfl (fun x6 _ => ?_)
        refine s_aload_n (pc := 84) 2 dX1_readAfter_84 rfl ?_
        refine xg_X1_18 0 ho rfl (pc := 85) dX1_readAfter_85 rfl hq_0_0 ?_
        refine x_callV (M := MX1_readAfter) (L := [(1, b0, f0, s0), (8, b1, f1, x6), (0, b2, f2, s2)]) (h := h) (j := 1) (As := []) (st := []) (A := fun (x : Int32) => some (.int x)) (Lc := [(8, b1, f1, x6)]) (Lr := fun (x : Int32) => [(8, b1, f1, x6)]) (L2 := fun (x : Int32) => [(1, b0, f0, s0), (8, b1, f1, x6), (0, b2, f2, s2)]) cv_X1_32 (by decide) (pc := 88) dX1_readAfter_88 ho rfl xc0_8 rfl rfl (Nat.le_of_ble_eq_true rfl) (xovs (L := [(1, b0, f0, s0), (8, b1, f1, x6), (0, b2, f2, s2)]) (h := h) [(1, (8, b1, f1, x6))] ho ⟨rfl, trivial⟩).1 (fun x => (xovs (L := [(1, b0, f0, s0), (8, b1, f1, x6), (0, b2, f2, s2)]) (h := h) [(1, (8, b1, f1, x6))] ho ⟨rfl, trivial⟩).1) (fun x hx => pX8_kindHere_ok (h := xw [(1, b0, f0, s0), (8, b1, f1, x6), (0, b2, f2, s2)] h) (f0 := f1) (xok_sub ho [1] rfl (by decide)) x6 x hx) rfl (fun x7 _ => ?_)
        refine s_bipush (v := 31) (pc := 91) dX1_readAfter_91 (by decide) ?_
        refine s_icmp_ne (tgt := 99) (pc := 93) dX1_readAfter_93 (by decide) (fun _ => ?_) (fun _ => ?_)
        · refine s_sub [2, 3, 0] rfl ?_
          exact s_ev (fun _ _ q => q)
        · refine s_iincT (pc := 99) 4 (lv' := fun x8 => [(3, .int x8), (2, .int x5), (4, .int x3.1), (0, .ref b0), (1, .int v1)]) dX1_readAfter_99 rfl rfl (by decide) (fun _ => rfl) (fun x8 => ?_)
          refine s_goto (tgt := 25) (pc := 102) dX1_readAfter_102 (by decide) ?_
          refine s_sub [3, 4, 1, 0] rfl ?_
          exact s_ev (fun _ _ q => q)
def X1_readAfter_j105 (v1 : Int32) (v2 : Int32) (s0 : RS) (s1 : RS) (s2 : RS) : Option (Bool × RS × RS) :=
  g_in v1 16 (
  g_in v1 16 (thn (uA s2 9 (upd (s2.2.2.1 9) v1.toNatClampNeg ((s2.2.2.1 9 v1.toNatClampNeg) ||| v2))) fun s_13 =>
  some (true, s1, s_13)))
theorem X1_readAfter_j105_ok (ho : xok [(1, b0), (8, b1), (0, b2)] h.2.1) (hq_0_0 : f0 0 = some b1) (hq_0_1 : f0 1 = some b2) (v1 : Int32) (v2 : Int32) (s0 : RS) (s1 : RS) (s2 : RS) : aS l 2 MX1_readAfter n0 S0 (oΦ (fun (x : Bool × RS × RS) => ((some (.int (b2i x.1))), xw [(1, b0, f0, s0), (8, b1, f1, x.2.1), (0, b2, f2, x.2.2)] h))) 105 [(0, .ref b0), (1, .int v1), (2, .int v2)] [] (xw [(1, b0, f0, s0), (8, b1, f1, s1), (0, b2, f2, s2)] h) (X1_readAfter_j105 v1 v2 s0 s1 s2) := by
  unfold X1_readAfter_j105
  refine s_aload_n (pc := 105) 0 dX1_readAfter_105 rfl ?_
  refine xg_X1_12 0 ho rfl (pc := 106) dX1_readAfter_106 rfl hq_0_1 ?_
  refine xg_X1_134 2 ho rfl (pc := 109) dX1_readAfter_109 rfl ?_
  refine s_iload_n (pc := 112) 1 dX1_readAfter_112 rfl ?_
  refine s_dup2_11 (pc := 113) dX1_readAfter_113 rfl rfl ?_
  refine xl_0_9 2 ho rfl (pc := 114) dX1_readAfter_114 ?_
  refine s_iload_n (pc := 115) 2 dX1_readAfter_115 rfl ?_
  refine s_ior (pc := 116) dX1_readAfter_116 ?_
  refine xs_0_9 (L' := fun s_13 => [(1, b0, f0, s0), (8, b1, f1, s1), (0, b2, f2, s_13)]) 2 ho rfl (fun _ => rfl) (pc := 117) dX1_readAfter_117 (fun s_13 => ?_)
  refine s_iconst (v := 1) (pc := 118) dX1_readAfter_118 (by decide) ?_
  exact s_zretB (b := true) (pc := 119) dX1_readAfter_119 rfl (fun _ _ q => q)
def pX1_readAfter (s0 : RS) (s1 : RS) (s2 : RS) (a0 : Int32) : Option (Bool × RS × RS) :=
  (pX8_kindHere s1).bind fun x1 =>
  if x1 = (10 : Int32) then
    (pX8_advance s1).bind fun x2 =>
    (a_loop (fun (q : Int32 × Int32 × RS) => X1_readAfter_b25 a0 q.1 q.2.1 s0 q.2.2 s2) FU ((0 : Int32), (0 : Int32), x2)).bind (Sum.elim (fun (t9 : RS) =>
        some (false, t9, s2))
      (Sum.elim (fun (t10 : RS) =>
        (pX8_blame t10 (5 : Int32)).bind fun x11 =>
        some (x11.1, x11.2, s2))
      (Sum.elim (fun (t12 : Int32 × RS) =>
        X1_readAfter_j105 a0 t12.1 s0 t12.2 s2)
      (fun (t14 : Int32 × RS) =>
        X1_readAfter_j105 a0 t14.1 s0 t14.2 s2))))
  else
    some (true, s1, s2)
theorem pX1_readAfter_w (ho : xok [(1, b0), (8, b1), (0, b2)] h.2.1) (hq_0_0 : f0 0 = some b1) (hq_0_1 : f0 1 = some b2) (s0 : RS) (s1 : RS) (s2 : RS) (a0 : Int32) : aS l 2 MX1_readAfter n0 S0 (oΦ (fun (x : Bool × RS × RS) => ((some (.int (b2i x.1))), xw [(1, b0, f0, s0), (8, b1, f1, x.2.1), (0, b2, f2, x.2.2)] h))) 0 [(0, .ref b0), (1, .int a0)] [] (xw [(1, b0, f0, s0), (8, b1, f1, s1), (0, b2, f2, s2)] h) (pX1_readAfter s0 s1 s2 a0) := by
  unfold pX1_readAfter
  refine s_aload_n (pc := 0) 0 dX1_readAfter_0 rfl ?_
  refine xg_X1_18 0 ho rfl (pc := 1) dX1_readAfter_1 rfl hq_0_0 ?_
  refine x_callV (M := MX1_readAfter) (L := [(1, b0, f0, s0), (8, b1, f1, s1), (0, b2, f2, s2)]) (h := h) (j := 1) (As := []) (st := []) (A := fun (x : Int32) => some (.int x)) (Lc := [(8, b1, f1, s1)]) (Lr := fun (x : Int32) => [(8, b1, f1, s1)]) (L2 := fun (x : Int32) => [(1, b0, f0, s0), (8, b1, f1, s1), (0, b2, f2, s2)]) cv_X1_32 (by decide) (pc := 4) dX1_readAfter_4 ho rfl xc0_8 rfl rfl (Nat.le_of_ble_eq_true rfl) (xovs (L := [(1, b0, f0, s0), (8, b1, f1, s1), (0, b2, f2, s2)]) (h := h) [(1, (8, b1, f1, s1))] ho ⟨rfl, trivial⟩).1 (fun x => (xovs (L := [(1, b0, f0, s0), (8, b1, f1, s1), (0, b2, f2, s2)]) (h := h) [(1, (8, b1, f1, s1))] ho ⟨rfl, trivial⟩).1) (fun x hx => pX8_kindHere_ok (h := xw [(1, b0, f0, s0), (8, b1, f1, s1), (0, b2, f2, s2)] h) (f0 := f1) (xok_sub ho [1] rfl (by decide)) s1 x hx) rfl (fun x1 _ => ?_)
  refine s_bipush (v := 10) (pc := 7) dX1_readAfter_7 (by decide) ?_
  refine s_icmp_eq (tgt := 14) (pc := 9) dX1_readAfter_9 (by decide) (fun _ => ?_) (fun _ => ?_)
  · refine s_aload_n (pc := 14) 0 dX1_readAfter_14 rfl ?_
    refine xg_X1_18 0 ho rfl (pc := 15) dX1_readAfter_15 rfl hq_0_0 ?_
    refine x_callV (M := MX1_readAfter) (L := [(1, b0, f0, s0), (8, b1, f1, s1), (0, b2, f2, s2)]) (h := h) (j := 1) (As := []) (st := []) (A := fun (x : RS) => none) (Lc := [(8, b1, f1, s1)]) (Lr := fun (x : RS) => [(8, b1, f1, x)]) (L2 := fun (x : RS) => [(1, b0, f0, s0), (8, b1, f1, x), (0, b2, f2, s2)]) cv_X1_50 (by decide) (pc := 18) dX1_readAfter_18 ho rfl xc0_8 rfl rfl (Nat.le_of_ble_eq_true rfl) (xovs (L := [(1, b0, f0, s0), (8, b1, f1, s1), (0, b2, f2, s2)]) (h := h) [(1, (8, b1, f1, s1))] ho ⟨rfl, trivial⟩).1 (fun x => (xovs (L := [(1, b0, f0, s0), (8, b1, f1, s1), (0, b2, f2, s2)]) (h := h) [(1, (8, b1, f1, x))] ho ⟨rfl, trivial⟩).1) (fun x hx => pX8_advance_ok (h := xw [(1, b0, f0, s0), (8, b1, f1, s1), (0, b2, f2, s2)] h) (f0 := f1) (xok_sub ho [1] rfl (by decide)) s1 x hx) rfl (fun x2 _ => ?_)
    refine s_iconst (v := 0) (pc := 21) dX1_readAfter_21 (by decide) ?_
    refine s_istore_n (lv' := [(2, .int 0), (0, .ref b0), (1, .int a0)]) (pc := 22) dX1_readAfter_22 (by decide) rfl ?_
    refine s_iconst (v := 0) (pc := 23) dX1_readAfter_23 (by decide) ?_
    refine s_istore_n (lv' := [(3, .int 0), (2, .int 0), (0, .ref b0), (1, .int a0)]) (pc := 24) dX1_readAfter_24 (by decide) rfl ?_
    refine s_bind (Ψ := X1_readAfter_x25 l n0 S0 h b0 b1 b2 f0 f1 f2 a0 s0 s2) ?_ ?_
    · refine s_sub [2, 3, 1, 0] rfl ?_
      exact s_loop (lvf := fun (q : Int32 × Int32 × RS) => [(0, .ref b0), (1, .int a0), (2, .int q.1), (3, .int q.2.1)]) (stf := fun _ => []) (hf := fun (q : Int32 × Int32 × RS) => xw [(1, b0, f0, s0), (8, b1, f1, q.2.2), (0, b2, f2, s2)] h) (fun q => X1_readAfter_b25_ok ho hq_0_0 hq_0_1 a0 q.1 q.2.1 s0 q.2.2 s2) FU ((0 : Int32), (0 : Int32), x2)
    · intro x z r h' hz hr
      rcases x with t9 | t10 | t12 | t14
      · refine (?_ : aS l 2 MX1_readAfter n0 S0 (oΦ (fun (x : Bool × RS × RS) => ((some (.int (b2i x.1))), xw [(1, b0, f0, s0), (8, b1, f1, x.2.1), (0, b2, f2, x.2.2)] h))) 50 [] [] (xw [(1, b0, f0, s0), (8, b1, f1, t9), (0, b2, f2, s2)] h) _) z (show _ = some z from hz) r h' hr
        refine s_iconst (v := 0) (pc := 50) dX1_readAfter_50 (by decide) ?_
        exact s_zretB (b := false) (pc := 51) dX1_readAfter_51 rfl (fun _ _ q => q)
      · refine (?_ : aS l 2 MX1_readAfter n0 S0 (oΦ (fun (x : Bool × RS × RS) => ((some (.int (b2i x.1))), xw [(1, b0, f0, s0), (8, b1, f1, x.2.1), (0, b2, f2, x.2.2)] h))) 61 [(0, .ref b0)] [] (xw [(1, b0, f0, s0), (8, b1, f1, t10), (0, b2, f2, s2)] h) _) z (show _ = some z from hz) r h' hr
        refine s_aload_n (pc := 61) 0 dX1_readAfter_61 rfl ?_
        refine xg_X1_18 0 ho rfl (pc := 62) dX1_readAfter_62 rfl hq_0_0 ?_
        refine s_iconst (v := 5) (pc := 65) dX1_readAfter_65 (by decide) ?_
        refine x_callV (M := MX1_readAfter) (L := [(1, b0, f0, s0), (8, b1, f1, t10), (0, b2, f2, s2)]) (h := h) (j := 1) (As := [.int 5]) (st := []) (A := fun (x : Bool × RS) => some (.int (b2i x.1))) (Lc := [(8, b1, f1, t10)]) (Lr := fun (x : Bool × RS) => [(8, b1, f1, x.2)]) (L2 := fun (x : Bool × RS) => [(1, b0, f0, s0), (8, b1, f1, x.2), (0, b2, f2, s2)]) cv_X1_46 (by decide) (pc := 66) dX1_readAfter_66 ho rfl xc0_8 rfl rfl (Nat.le_of_ble_eq_true rfl) (xovs (L := [(1, b0, f0, s0), (8, b1, f1, t10), (0, b2, f2, s2)]) (h := h) [(1, (8, b1, f1, t10))] ho ⟨rfl, trivial⟩).1 (fun x => (xovs (L := [(1, b0, f0, s0), (8, b1, f1, t10), (0, b2, f2, s2)]) (h := h) [(1, (8, b1, f1, x.2))] ho ⟨rfl, trivial⟩).1) (fun x hx => pX8_blame_ok (h := xw [(1, b0, f0, s0), (8, b1, f1, t10), (0, b2, f2, s2)] h) (f0 := f1) (xok_sub ho [1] rfl (by decide)) t10 (5 : Int32) x hx) rfl (fun x11 _ => ?_)
        exact s_zretB (b := x11.1) (pc := 69) dX1_readAfter_69 rfl (fun _ _ q => q)
      · refine (?_ : aS l 2 MX1_readAfter n0 S0 (oΦ (fun (x : Bool × RS × RS) => ((some (.int (b2i x.1))), xw [(1, b0, f0, s0), (8, b1, f1, x.2.1), (0, b2, f2, x.2.2)] h))) 96 [(0, .ref b0), (1, .int a0), (2, .int t12.1)] [] (xw [(1, b0, f0, s0), (8, b1, f1, t12.2), (0, b2, f2, s2)] h) _) z (show _ = some z from hz) r h' hr
        refine s_goto (tgt := 105) (pc := 96) dX1_readAfter_96 (by decide) ?_
        exact X1_readAfter_j105_ok ho hq_0_0 hq_0_1 a0 t12.1 s0 t12.2 s2
      · refine (?_ : aS l 2 MX1_readAfter n0 S0 (oΦ (fun (x : Bool × RS × RS) => ((some (.int (b2i x.1))), xw [(1, b0, f0, s0), (8, b1, f1, x.2.1), (0, b2, f2, x.2.2)] h))) 105 [(0, .ref b0), (1, .int a0), (2, .int t14.1)] [] (xw [(1, b0, f0, s0), (8, b1, f1, t14.2), (0, b2, f2, s2)] h) _) z (show _ = some z from hz) r h' hr
        exact X1_readAfter_j105_ok ho hq_0_0 hq_0_1 a0 t14.1 s0 t14.2 s2
  · refine s_iconst (v := 1) (pc := 12) dX1_readAfter_12 (by decide) ?_
    exact s_zretB (b := true) (pc := 13) dX1_readAfter_13 rfl (fun _ _ q => q)
theorem pX1_readAfter_ok (ho : xok [(1, b0), (8, b1), (0, b2)] h.2.1) (hq_0_0 : f0 0 = some b1) (hq_0_1 : f0 1 = some b2) (s0 : RS) (s1 : RS) (s2 : RS) (a0 : Int32) : ∀ x, pX1_readAfter s0 s1 s2 a0 = some x → aMet l 2 yX1_readAfter cX1_readAfter 5 (some .boolean) [.ref b0, .int a0] (xw [(1, b0, f0, s0), (8, b1, f1, s1), (0, b2, f2, s2)] h) (some (.int (b2i x.1))) (xw [(1, b0, f0, s0), (8, b1, f1, x.2.1), (0, b2, f2, x.2.2)] h) := fun x hx => a_meth (ini := false) (y := yX1_readAfter) (by decide +kernel) (fun q => by cases q) (fun _ => Nat.le_of_ble_eq_true rfl) (pX1_readAfter_w ho hq_0_0 hq_0_1 s0 s1 s2 a0) x hx _ _ ⟨rfl, rfl⟩
end
section
variable {l : Launch} {n0 S0 : Nat} {h : aH} {b0 b1 b2 : Nat} {f0 f1 f2 : Nat → Option Nat}
abbrev MX1_readNumber : aM := (cX1_readNumber, RX1, 3, (some .boolean), false)
def pX1_readNumber (s0 : RS) (s1 : RS) (s2 : RS) (a0 : Int32) (a1 : Int32) : Option (Bool × RS × RS) :=
  (pX8_pass s1 a1).bind fun x1 =>
  if x1.1 = true then
    (pX8_passNumber x1.2 (0 : Int32) (9999 : Int32)).bind fun x2 =>
    g_in a0 16 (thn (uA s2 5 (upd (s2.2.2.1 5) a0.toNatClampNeg x2.1)) fun s_3 =>
    g_in a0 16 (
    if (s_3.2.2.1 5 a0.toNatClampNeg) = (-1 : Int32) then
      some (false, x2.2, s_3)
    else
      some (true, x2.2, s_3)))
  else
    some (false, x1.2, s2)
theorem pX1_readNumber_w (ho : xok [(1, b0), (8, b1), (0, b2)] h.2.1) (hq_0_0 : f0 0 = some b1) (hq_0_1 : f0 1 = some b2) (s0 : RS) (s1 : RS) (s2 : RS) (a0 : Int32) (a1 : Int32) : aS l 2 MX1_readNumber n0 S0 (oΦ (fun (x : Bool × RS × RS) => ((some (.int (b2i x.1))), xw [(1, b0, f0, s0), (8, b1, f1, x.2.1), (0, b2, f2, x.2.2)] h))) 0 [(0, .ref b0), (1, .int a0), (2, .int a1)] [] (xw [(1, b0, f0, s0), (8, b1, f1, s1), (0, b2, f2, s2)] h) (pX1_readNumber s0 s1 s2 a0 a1) := by
  unfold pX1_readNumber
  refine s_aload_n (pc := 0) 0 dX1_readNumber_0 rfl ?_
  refine xg_X1_18 0 ho rfl (pc := 1) dX1_readNumber_1 rfl hq_0_0 ?_
  refine s_iload_n (pc := 4) 2 dX1_readNumber_4 rfl ?_
  refine x_callV (M := MX1_readNumber) (L := [(1, b0, f0, s0), (8, b1, f1, s1), (0, b2, f2, s2)]) (h := h) (j := 1) (As := [.int a1]) (st := []) (A := fun (x : Bool × RS) => some (.int (b2i x.1))) (Lc := [(8, b1, f1, s1)]) (Lr := fun (x : Bool × RS) => [(8, b1, f1, x.2)]) (L2 := fun (x : Bool × RS) => [(1, b0, f0, s0), (8, b1, f1, x.2), (0, b2, f2, s2)]) cv_X1_64 (by decide) (pc := 5) dX1_readNumber_5 ho rfl xc0_8 rfl rfl (Nat.le_of_ble_eq_true rfl) (xovs (L := [(1, b0, f0, s0), (8, b1, f1, s1), (0, b2, f2, s2)]) (h := h) [(1, (8, b1, f1, s1))] ho ⟨rfl, trivial⟩).1 (fun x => (xovs (L := [(1, b0, f0, s0), (8, b1, f1, s1), (0, b2, f2, s2)]) (h := h) [(1, (8, b1, f1, x.2))] ho ⟨rfl, trivial⟩).1) (fun x hx => pX8_pass_ok (h := xw [(1, b0, f0, s0), (8, b1, f1, s1), (0, b2, f2, s2)] h) (f0 := f1) (xok_sub ho [1] rfl (by decide)) s1 a1 x hx) rfl (fun x1 _ => ?_)
  refine s_if_neB (tgt := 13) (pc := 8) dX1_readNumber_8 (by decide) (fun _ => ?_) (fun _ => ?_)
  · refine s_aload_n (pc := 13) 0 dX1_readNumber_13 rfl ?_
    refine xg_X1_12 0 ho rfl (pc := 14) dX1_readNumber_14 rfl hq_0_1 ?_
    refine xg_X1_95 2 ho rfl (pc := 17) dX1_readNumber_17 rfl ?_
    refine s_iload_n (pc := 20) 1 dX1_readNumber_20 rfl ?_
    refine s_aload_n (pc := 21) 0 dX1_readNumber_21 rfl ?_
    refine xg_X1_18 0 ho rfl (pc := 22) dX1_readNumber_22 rfl hq_0_0 ?_
    refine s_iconst (v := 0) (pc := 25) dX1_readNumber_25 (by decide) ?_
    refine s_sipush (v := 9999) (pc := 26) dX1_readNumber_26 (by decide) ?_
    refine x_callV (M := MX1_readNumber) (L := [(1, b0, f0, s0), (8, b1, f1, x1.2), (0, b2, f2, s2)]) (h := h) (j := 1) (As := [.int 0, .int 9999]) (st := [.int a0, .ref (b2 + 4)]) (A := fun (x : Int32 × RS) => some (.int x.1)) (Lc := [(8, b1, f1, x1.2)]) (Lr := fun (x : Int32 × RS) => [(8, b1, f1, x.2)]) (L2 := fun (x : Int32 × RS) => [(1, b0, f0, s0), (8, b1, f1, x.2), (0, b2, f2, s2)]) cv_X1_123 (by decide) (pc := 29) dX1_readNumber_29 ho rfl xc0_8 rfl rfl (Nat.le_of_ble_eq_true rfl) (xovs (L := [(1, b0, f0, s0), (8, b1, f1, x1.2), (0, b2, f2, s2)]) (h := h) [(1, (8, b1, f1, x1.2))] ho ⟨rfl, trivial⟩).1 (fun x => (xovs (L := [(1, b0, f0, s0), (8, b1, f1, x1.2), (0, b2, f2, s2)]) (h := h) [(1, (8, b1, f1, x.2))] ho ⟨rfl, trivial⟩).1) (fun x hx => pX8_passNumber_ok (h := xw [(1, b0, f0, s0), (8, b1, f1, x1.2), (0, b2, f2, s2)] h) (f0 := f1) (xok_sub ho [1] rfl (by decide)) x1.2 (0 : Int32) (9999 : Int32) x hx) rfl (fun x2 _ => ?_)
    refine xs_0_5 (L' := fun s_3 => [(1, b0, f0, s0), (8, b1, f1, x2.2), (0, b2, f2, s_3)]) 2 ho rfl (fun _ => rfl) (pc := 32) dX1_readNumber_32 (fun s_3 => ?_)
    refine s_aload_n (pc := 33) 0 dX1_readNumber_33 rfl ?_
    refine xg_X1_12 0 ho rfl (pc := 34) dX1_readNumber_34 rfl hq_0_1 ?_
    refine xg_X1_95 2 ho rfl (pc := 37) dX1_readNumber_37 rfl ?_
    refine s_iload_n (pc := 40) 1 dX1_readNumber_40 rfl ?_
    refine xl_0_5 2 ho rfl (pc := 41) dX1_readNumber_41 ?_
    refine s_iconst (v := (-1)) (pc := 42) dX1_readNumber_42 (by decide) ?_
    refine s_icmp_eq (tgt := 50) (pc := 43) dX1_readNumber_43 (by decide) (fun _ => ?_) (fun _ => ?_)
    · refine s_iconst (v := 0) (pc := 50) dX1_readNumber_50 (by decide) ?_
      exact s_zretB (b := false) (pc := 51) dX1_readNumber_51 rfl (fun _ _ q => q)
    · refine s_iconst (v := 1) (pc := 46) dX1_readNumber_46 (by decide) ?_
      refine s_goto (tgt := 51) (pc := 47) dX1_readNumber_47 (by decide) ?_
      exact s_zretB (b := true) (pc := 51) dX1_readNumber_51 rfl (fun _ _ q => q)
  · refine s_iconst (v := 0) (pc := 11) dX1_readNumber_11 (by decide) ?_
    exact s_zretB (b := false) (pc := 12) dX1_readNumber_12 rfl (fun _ _ q => q)
theorem pX1_readNumber_ok (ho : xok [(1, b0), (8, b1), (0, b2)] h.2.1) (hq_0_0 : f0 0 = some b1) (hq_0_1 : f0 1 = some b2) (s0 : RS) (s1 : RS) (s2 : RS) (a0 : Int32) (a1 : Int32) : ∀ x, pX1_readNumber s0 s1 s2 a0 a1 = some x → aMet l 2 yX1_readNumber cX1_readNumber 3 (some .boolean) [.ref b0, .int a0, .int a1] (xw [(1, b0, f0, s0), (8, b1, f1, s1), (0, b2, f2, s2)] h) (some (.int (b2i x.1))) (xw [(1, b0, f0, s0), (8, b1, f1, x.2.1), (0, b2, f2, x.2.2)] h) := fun x hx => a_meth (ini := false) (y := yX1_readNumber) (by decide +kernel) (fun q => by cases q) (fun _ => Nat.le_of_ble_eq_true rfl) (pX1_readNumber_w ho hq_0_0 hq_0_1 s0 s1 s2 a0 a1) x hx _ _ ⟨rfl, rfl⟩
end
section
variable {l : Launch} {n0 S0 : Nat} {h : aH} {b0 b1 b2 : Nat} {f0 f1 f2 : Nat → Option Nat}
abbrev MX1_readOf : aM := (cX1_readOf, RX1, 3, (some .boolean), false)
def X1_readOf_j58 (s0 : RS) (s1 : RS) (s2 : RS) : Option (Bool × RS × RS) :=
  (pX8_blame s1 (5 : Int32)).bind fun x3 =>
  some (x3.1, x3.2, s2)
theorem X1_readOf_j58_ok (ho : xok [(1, b0), (8, b1), (0, b2)] h.2.1) (hq_0_0 : f0 0 = some b1) (hq_0_1 : f0 1 = some b2) (s0 : RS) (s1 : RS) (s2 : RS) : aS l 2 MX1_readOf n0 S0 (oΦ (fun (x : Bool × RS × RS) => ((some (.int (b2i x.1))), xw [(1, b0, f0, s0), (8, b1, f1, x.2.1), (0, b2, f2, x.2.2)] h))) 58 [(0, .ref b0)] [] (xw [(1, b0, f0, s0), (8, b1, f1, s1), (0, b2, f2, s2)] h) (X1_readOf_j58 s0 s1 s2) := by
  unfold X1_readOf_j58
  refine s_aload_n (pc := 58) 0 dX1_readOf_58 rfl ?_
  refine xg_X1_18 0 ho rfl (pc := 59) dX1_readOf_59 rfl hq_0_0 ?_
  refine s_iconst (v := 5) (pc := 62) dX1_readOf_62 (by decide) ?_
  refine x_callV (M := MX1_readOf) (L := [(1, b0, f0, s0), (8, b1, f1, s1), (0, b2, f2, s2)]) (h := h) (j := 1) (As := [.int 5]) (st := []) (A := fun (x : Bool × RS) => some (.int (b2i x.1))) (Lc := [(8, b1, f1, s1)]) (Lr := fun (x : Bool × RS) => [(8, b1, f1, x.2)]) (L2 := fun (x : Bool × RS) => [(1, b0, f0, s0), (8, b1, f1, x.2), (0, b2, f2, s2)]) cv_X1_46 (by decide) (pc := 63) dX1_readOf_63 ho rfl xc0_8 rfl rfl (Nat.le_of_ble_eq_true rfl) (xovs (L := [(1, b0, f0, s0), (8, b1, f1, s1), (0, b2, f2, s2)]) (h := h) [(1, (8, b1, f1, s1))] ho ⟨rfl, trivial⟩).1 (fun x => (xovs (L := [(1, b0, f0, s0), (8, b1, f1, s1), (0, b2, f2, s2)]) (h := h) [(1, (8, b1, f1, x.2))] ho ⟨rfl, trivial⟩).1) (fun x hx => pX8_blame_ok (h := xw [(1, b0, f0, s0), (8, b1, f1, s1), (0, b2, f2, s2)] h) (f0 := f1) (xok_sub ho [1] rfl (by decide)) s1 (5 : Int32) x hx) rfl (fun x3 _ => ?_)
  exact s_zretB (b := x3.1) (pc := 66) dX1_readOf_66 rfl (fun _ _ q => q)
def pX1_readOf (s0 : RS) (s1 : RS) (s2 : RS) (a0 : Int32) : Option (Bool × RS × RS) :=
  (pX8_pass s1 (5 : Int32)).bind fun x1 =>
  if x1.1 = true then
    (pX8_changeHere x1.2 s2).bind fun x2 =>
    if x2.1 = (-1 : Int32) then
      some (false, x2.2, s2)
    else
      g_in x2.1 16 (
      if (s2.2.2.1 4 x2.1.toNatClampNeg) = (1 : Int32) then
        X1_readOf_j58 s0 x2.2 s2
      else
        g_in x2.1 16 (
        if (s2.2.2.1 4 x2.1.toNatClampNeg) = (4 : Int32) then
          X1_readOf_j58 s0 x2.2 s2
        else
          (pX8_advance x2.2).bind fun x4 =>
          g_in x2.1 16 (
          g_in a0 16 (thn (uA s2 7 (upd (s2.2.2.1 7) a0.toNatClampNeg (s2.2.2.1 7 x2.1.toNatClampNeg))) fun s_5 =>
          g_in a0 16 (thn (uA s_5 9 (upd (s_5.2.2.1 9) a0.toNatClampNeg ((1 : Int32) <<< (x2.1 &&& 31)))) fun s_6 =>
          some (true, x4, s_6))))))
  else
    some (false, x1.2, s2)
theorem pX1_readOf_w (ho : xok [(1, b0), (8, b1), (0, b2)] h.2.1) (hq_0_0 : f0 0 = some b1) (hq_0_1 : f0 1 = some b2) (s0 : RS) (s1 : RS) (s2 : RS) (a0 : Int32) : aS l 2 MX1_readOf n0 S0 (oΦ (fun (x : Bool × RS × RS) => ((some (.int (b2i x.1))), xw [(1, b0, f0, s0), (8, b1, f1, x.2.1), (0, b2, f2, x.2.2)] h))) 0 [(0, .ref b0), (1, .int a0)] [] (xw [(1, b0, f0, s0), (8, b1, f1, s1), (0, b2, f2, s2)] h) (pX1_readOf s0 s1 s2 a0) := by
  unfold pX1_readOf
  refine s_aload_n (pc := 0) 0 dX1_readOf_0 rfl ?_
  refine xg_X1_18 0 ho rfl (pc := 1) dX1_readOf_1 rfl hq_0_0 ?_
  refine s_iconst (v := 5) (pc := 4) dX1_readOf_4 (by decide) ?_
  refine x_callV (M := MX1_readOf) (L := [(1, b0, f0, s0), (8, b1, f1, s1), (0, b2, f2, s2)]) (h := h) (j := 1) (As := [.int 5]) (st := []) (A := fun (x : Bool × RS) => some (.int (b2i x.1))) (Lc := [(8, b1, f1, s1)]) (Lr := fun (x : Bool × RS) => [(8, b1, f1, x.2)]) (L2 := fun (x : Bool × RS) => [(1, b0, f0, s0), (8, b1, f1, x.2), (0, b2, f2, s2)]) cv_X1_64 (by decide) (pc := 5) dX1_readOf_5 ho rfl xc0_8 rfl rfl (Nat.le_of_ble_eq_true rfl) (xovs (L := [(1, b0, f0, s0), (8, b1, f1, s1), (0, b2, f2, s2)]) (h := h) [(1, (8, b1, f1, s1))] ho ⟨rfl, trivial⟩).1 (fun x => (xovs (L := [(1, b0, f0, s0), (8, b1, f1, s1), (0, b2, f2, s2)]) (h := h) [(1, (8, b1, f1, x.2))] ho ⟨rfl, trivial⟩).1) (fun x hx => pX8_pass_ok (h := xw [(1, b0, f0, s0), (8, b1, f1, s1), (0, b2, f2, s2)] h) (f0 := f1) (xok_sub ho [1] rfl (by decide)) s1 (5 : Int32) x hx) rfl (fun x1 _ => ?_)
  refine s_if_neB (tgt := 13) (pc := 8) dX1_readOf_8 (by decide) (fun _ => ?_) (fun _ => ?_)
  · refine s_aload_n (pc := 13) 0 dX1_readOf_13 rfl ?_
    refine xg_X1_18 0 ho rfl (pc := 14) dX1_readOf_14 rfl hq_0_0 ?_
    refine s_aload_n (pc := 17) 0 dX1_readOf_17 rfl ?_
    refine xg_X1_12 0 ho rfl (pc := 18) dX1_readOf_18 rfl hq_0_1 ?_
    refine x_callV (M := MX1_readOf) (L := [(1, b0, f0, s0), (8, b1, f1, x1.2), (0, b2, f2, s2)]) (h := h) (j := 1) (As := [.ref b2]) (st := []) (A := fun (x : Int32 × RS) => some (.int x.1)) (Lc := [(8, b1, f1, x1.2), (0, b2, f2, s2)]) (Lr := fun (x : Int32 × RS) => [(8, b1, f1, x.2), (0, b2, f2, s2)]) (L2 := fun (x : Int32 × RS) => [(1, b0, f0, s0), (8, b1, f1, x.2), (0, b2, f2, s2)]) cv_X1_130 (by decide) (pc := 21) dX1_readOf_21 ho rfl xc0_8 rfl rfl (Nat.le_of_ble_eq_true rfl) (xovs (L := [(1, b0, f0, s0), (8, b1, f1, x1.2), (0, b2, f2, s2)]) (h := h) [(1, (8, b1, f1, x1.2)), (2, (0, b2, f2, s2))] ho ⟨rfl, rfl, trivial⟩).1 (fun x => (xovs (L := [(1, b0, f0, s0), (8, b1, f1, x1.2), (0, b2, f2, s2)]) (h := h) [(1, (8, b1, f1, x.2)), (2, (0, b2, f2, s2))] ho ⟨rfl, rfl, trivial⟩).1) (fun x hx => pX8_changeHere_ok (h := xw [(1, b0, f0, s0), (8, b1, f1, x1.2), (0, b2, f2, s2)] h) (f0 := f1) (f1 := f2) (xok_sub ho [1, 2] rfl (by decide)) x1.2 s2 x hx) rfl (fun x2 _ => ?_)
    refine s_istore_n (lv' := [(2, .int x2.1), (0, .ref b0), (1, .int a0)]) (pc := 24) dX1_readOf_24 (by decide) rfl ?_
    refine s_iload_n (pc := 25) 0 dX1_readOf_25 rfl ?_
    refine s_iconst (v := (-1)) (pc := 26) dX1_readOf_26 (by decide) ?_
    refine s_icmp_ne (tgt := 32) (pc := 27) dX1_readOf_27 (by decide) (fun _ => ?_) (fun _ => ?_)
    · refine s_iconst (v := 0) (pc := 30) dX1_readOf_30 (by decide) ?_
      exact s_zretB (b := false) (pc := 31) dX1_readOf_31 rfl (fun _ _ q => q)
    · refine s_aload_n (pc := 32) 1 dX1_readOf_32 rfl ?_
      refine xg_X1_12 0 ho rfl (pc := 33) dX1_readOf_33 rfl hq_0_1 ?_
      refine xg_X1_91 2 ho rfl (pc := 36) dX1_readOf_36 rfl ?_
      refine s_iload_n (pc := 39) 0 dX1_readOf_39 rfl ?_
      refine xl_0_4 2 ho rfl (pc := 40) dX1_readOf_40 ?_
      refine s_iconst (v := 1) (pc := 41) dX1_readOf_41 (by decide) ?_
      refine s_icmp_eq (tgt := 58) (pc := 42) dX1_readOf_42 (by decide) (fun _ => ?_) (fun _ => ?_)
      · refine s_sub [1] rfl ?_
        exact X1_readOf_j58_ok ho hq_0_0 hq_0_1 s0 x2.2 s2
      · refine s_aload_n (pc := 45) 1 dX1_readOf_45 rfl ?_
        refine xg_X1_12 0 ho rfl (pc := 46) dX1_readOf_46 rfl hq_0_1 ?_
        refine xg_X1_91 2 ho rfl (pc := 49) dX1_readOf_49 rfl ?_
        refine s_iload_n (pc := 52) 0 dX1_readOf_52 rfl ?_
        refine xl_0_4 2 ho rfl (pc := 53) dX1_readOf_53 ?_
        refine s_iconst (v := 4) (pc := 54) dX1_readOf_54 (by decide) ?_
        refine s_icmp_ne (tgt := 67) (pc := 55) dX1_readOf_55 (by decide) (fun _ => ?_) (fun _ => ?_)
        · refine s_sub [1] rfl ?_
          exact X1_readOf_j58_ok ho hq_0_0 hq_0_1 s0 x2.2 s2
        · refine s_aload_n (pc := 67) 1 dX1_readOf_67 rfl ?_
          refine xg_X1_18 0 ho rfl (pc := 68) dX1_readOf_68 rfl hq_0_0 ?_
          refine x_callV (M := MX1_readOf) (L := [(1, b0, f0, s0), (8, b1, f1, x2.2), (0, b2, f2, s2)]) (h := h) (j := 1) (As := []) (st := []) (A := fun (x : RS) => none) (Lc := [(8, b1, f1, x2.2)]) (Lr := fun (x : RS) => [(8, b1, f1, x)]) (L2 := fun (x : RS) => [(1, b0, f0, s0), (8, b1, f1, x), (0, b2, f2, s2)]) cv_X1_50 (by decide) (pc := 71) dX1_readOf_71 ho rfl xc0_8 rfl rfl (Nat.le_of_ble_eq_true rfl) (xovs (L := [(1, b0, f0, s0), (8, b1, f1, x2.2), (0, b2, f2, s2)]) (h := h) [(1, (8, b1, f1, x2.2))] ho ⟨rfl, trivial⟩).1 (fun x => (xovs (L := [(1, b0, f0, s0), (8, b1, f1, x2.2), (0, b2, f2, s2)]) (h := h) [(1, (8, b1, f1, x))] ho ⟨rfl, trivial⟩).1) (fun x hx => pX8_advance_ok (h := xw [(1, b0, f0, s0), (8, b1, f1, x2.2), (0, b2, f2, s2)] h) (f0 := f1) (xok_sub ho [1] rfl (by decide)) x2.2 x hx) rfl (fun x4 _ => ?_)
          refine s_aload_n (pc := 74) 1 dX1_readOf_74 rfl ?_
          refine xg_X1_12 0 ho rfl (pc := 75) dX1_readOf_75 rfl hq_0_1 ?_
          refine xg_X1_108 2 ho rfl (pc := 78) dX1_readOf_78 rfl ?_
          refine s_iload_n (pc := 81) 2 dX1_readOf_81 rfl ?_
          refine s_aload_n (pc := 82) 1 dX1_readOf_82 rfl ?_
          refine xg_X1_12 0 ho rfl (pc := 83) dX1_readOf_83 rfl hq_0_1 ?_
          refine xg_X1_108 2 ho rfl (pc := 86) dX1_readOf_86 rfl ?_
          refine s_iload_n (pc := 89) 0 dX1_readOf_89 rfl ?_
          refine xl_0_7 2 ho rfl (pc := 90) dX1_readOf_90 ?_
          refine xs_0_7 (L' := fun s_5 => [(1, b0, f0, s0), (8, b1, f1, x4), (0, b2, f2, s_5)]) 2 ho rfl (fun _ => rfl) (pc := 91) dX1_readOf_91 (fun s_5 => ?_)
          refine s_aload_n (pc := 92) 1 dX1_readOf_92 rfl ?_
          refine xg_X1_12 0 ho rfl (pc := 93) dX1_readOf_93 rfl hq_0_1 ?_
          refine xg_X1_134 2 ho rfl (pc := 96) dX1_readOf_96 rfl ?_
          refine s_iload_n (pc := 99) 2 dX1_readOf_99 rfl ?_
          refine s_iconst (v := 1) (pc := 100) dX1_readOf_100 (by decide) ?_
          refine s_iload_n (pc := 101) 0 dX1_readOf_101 rfl ?_
          refine s_ishl (pc := 102) dX1_readOf_102 ?_
          refine xs_0_9 (L' := fun s_6 => [(1, b0, f0, s0), (8, b1, f1, x4), (0, b2, f2, s_6)]) 2 ho rfl (fun _ => rfl) (pc := 103) dX1_readOf_103 (fun s_6 => ?_)
          refine s_iconst (v := 1) (pc := 104) dX1_readOf_104 (by decide) ?_
          exact s_zretB (b := true) (pc := 105) dX1_readOf_105 rfl (fun _ _ q => q)
  · refine s_iconst (v := 0) (pc := 11) dX1_readOf_11 (by decide) ?_
    exact s_zretB (b := false) (pc := 12) dX1_readOf_12 rfl (fun _ _ q => q)
theorem pX1_readOf_ok (ho : xok [(1, b0), (8, b1), (0, b2)] h.2.1) (hq_0_0 : f0 0 = some b1) (hq_0_1 : f0 1 = some b2) (s0 : RS) (s1 : RS) (s2 : RS) (a0 : Int32) : ∀ x, pX1_readOf s0 s1 s2 a0 = some x → aMet l 2 yX1_readOf cX1_readOf 3 (some .boolean) [.ref b0, .int a0] (xw [(1, b0, f0, s0), (8, b1, f1, s1), (0, b2, f2, s2)] h) (some (.int (b2i x.1))) (xw [(1, b0, f0, s0), (8, b1, f1, x.2.1), (0, b2, f2, x.2.2)] h) := fun x hx => a_meth (ini := false) (y := yX1_readOf) (by decide +kernel) (fun q => by cases q) (fun _ => Nat.le_of_ble_eq_true rfl) (pX1_readOf_w ho hq_0_0 hq_0_1 s0 s1 s2 a0) x hx _ _ ⟨rfl, rfl⟩
end
section
variable {l : Launch} {n0 S0 : Nat} {h : aH} {b0 b1 b2 : Nat} {f0 f1 f2 : Nat → Option Nat}
abbrev MX1_readSaying : aM := (cX1_readSaying, RX1, 2, (some .boolean), false)
def pX1_readSaying (s0 : RS) (s1 : RS) (s2 : RS) (a0 : Int32) : Option (Bool × RS × RS) :=
  (pX8_pass s1 (3 : Int32)).bind fun x1 =>
  if x1.1 = true then
    (pX8_passNumber x1.2 (0 : Int32) (9999 : Int32)).bind fun x2 =>
    g_in a0 16 (thn (uA s2 6 (upd (s2.2.2.1 6) a0.toNatClampNeg x2.1)) fun s_3 =>
    g_in a0 16 (
    if (s_3.2.2.1 6 a0.toNatClampNeg) = (-1 : Int32) then
      some (false, x2.2, s_3)
    else
      some (true, x2.2, s_3)))
  else
    some (false, x1.2, s2)
theorem pX1_readSaying_w (ho : xok [(1, b0), (8, b1), (0, b2)] h.2.1) (hq_0_0 : f0 0 = some b1) (hq_0_1 : f0 1 = some b2) (s0 : RS) (s1 : RS) (s2 : RS) (a0 : Int32) : aS l 2 MX1_readSaying n0 S0 (oΦ (fun (x : Bool × RS × RS) => ((some (.int (b2i x.1))), xw [(1, b0, f0, s0), (8, b1, f1, x.2.1), (0, b2, f2, x.2.2)] h))) 0 [(0, .ref b0), (1, .int a0)] [] (xw [(1, b0, f0, s0), (8, b1, f1, s1), (0, b2, f2, s2)] h) (pX1_readSaying s0 s1 s2 a0) := by
  unfold pX1_readSaying
  refine s_aload_n (pc := 0) 0 dX1_readSaying_0 rfl ?_
  refine xg_X1_18 0 ho rfl (pc := 1) dX1_readSaying_1 rfl hq_0_0 ?_
  refine s_iconst (v := 3) (pc := 4) dX1_readSaying_4 (by decide) ?_
  refine x_callV (M := MX1_readSaying) (L := [(1, b0, f0, s0), (8, b1, f1, s1), (0, b2, f2, s2)]) (h := h) (j := 1) (As := [.int 3]) (st := []) (A := fun (x : Bool × RS) => some (.int (b2i x.1))) (Lc := [(8, b1, f1, s1)]) (Lr := fun (x : Bool × RS) => [(8, b1, f1, x.2)]) (L2 := fun (x : Bool × RS) => [(1, b0, f0, s0), (8, b1, f1, x.2), (0, b2, f2, s2)]) cv_X1_64 (by decide) (pc := 5) dX1_readSaying_5 ho rfl xc0_8 rfl rfl (Nat.le_of_ble_eq_true rfl) (xovs (L := [(1, b0, f0, s0), (8, b1, f1, s1), (0, b2, f2, s2)]) (h := h) [(1, (8, b1, f1, s1))] ho ⟨rfl, trivial⟩).1 (fun x => (xovs (L := [(1, b0, f0, s0), (8, b1, f1, s1), (0, b2, f2, s2)]) (h := h) [(1, (8, b1, f1, x.2))] ho ⟨rfl, trivial⟩).1) (fun x hx => pX8_pass_ok (h := xw [(1, b0, f0, s0), (8, b1, f1, s1), (0, b2, f2, s2)] h) (f0 := f1) (xok_sub ho [1] rfl (by decide)) s1 (3 : Int32) x hx) rfl (fun x1 _ => ?_)
  refine s_if_neB (tgt := 13) (pc := 8) dX1_readSaying_8 (by decide) (fun _ => ?_) (fun _ => ?_)
  · refine s_aload_n (pc := 13) 0 dX1_readSaying_13 rfl ?_
    refine xg_X1_12 0 ho rfl (pc := 14) dX1_readSaying_14 rfl hq_0_1 ?_
    refine xg_X1_127 2 ho rfl (pc := 17) dX1_readSaying_17 rfl ?_
    refine s_iload_n (pc := 20) 1 dX1_readSaying_20 rfl ?_
    refine s_aload_n (pc := 21) 0 dX1_readSaying_21 rfl ?_
    refine xg_X1_18 0 ho rfl (pc := 22) dX1_readSaying_22 rfl hq_0_0 ?_
    refine s_iconst (v := 0) (pc := 25) dX1_readSaying_25 (by decide) ?_
    refine s_sipush (v := 9999) (pc := 26) dX1_readSaying_26 (by decide) ?_
    refine x_callV (M := MX1_readSaying) (L := [(1, b0, f0, s0), (8, b1, f1, x1.2), (0, b2, f2, s2)]) (h := h) (j := 1) (As := [.int 0, .int 9999]) (st := [.int a0, .ref (b2 + 5)]) (A := fun (x : Int32 × RS) => some (.int x.1)) (Lc := [(8, b1, f1, x1.2)]) (Lr := fun (x : Int32 × RS) => [(8, b1, f1, x.2)]) (L2 := fun (x : Int32 × RS) => [(1, b0, f0, s0), (8, b1, f1, x.2), (0, b2, f2, s2)]) cv_X1_123 (by decide) (pc := 29) dX1_readSaying_29 ho rfl xc0_8 rfl rfl (Nat.le_of_ble_eq_true rfl) (xovs (L := [(1, b0, f0, s0), (8, b1, f1, x1.2), (0, b2, f2, s2)]) (h := h) [(1, (8, b1, f1, x1.2))] ho ⟨rfl, trivial⟩).1 (fun x => (xovs (L := [(1, b0, f0, s0), (8, b1, f1, x1.2), (0, b2, f2, s2)]) (h := h) [(1, (8, b1, f1, x.2))] ho ⟨rfl, trivial⟩).1) (fun x hx => pX8_passNumber_ok (h := xw [(1, b0, f0, s0), (8, b1, f1, x1.2), (0, b2, f2, s2)] h) (f0 := f1) (xok_sub ho [1] rfl (by decide)) x1.2 (0 : Int32) (9999 : Int32) x hx) rfl (fun x2 _ => ?_)
    refine xs_0_6 (L' := fun s_3 => [(1, b0, f0, s0), (8, b1, f1, x2.2), (0, b2, f2, s_3)]) 2 ho rfl (fun _ => rfl) (pc := 32) dX1_readSaying_32 (fun s_3 => ?_)
    refine s_aload_n (pc := 33) 0 dX1_readSaying_33 rfl ?_
    refine xg_X1_12 0 ho rfl (pc := 34) dX1_readSaying_34 rfl hq_0_1 ?_
    refine xg_X1_127 2 ho rfl (pc := 37) dX1_readSaying_37 rfl ?_
    refine s_iload_n (pc := 40) 1 dX1_readSaying_40 rfl ?_
    refine xl_0_6 2 ho rfl (pc := 41) dX1_readSaying_41 ?_
    refine s_iconst (v := (-1)) (pc := 42) dX1_readSaying_42 (by decide) ?_
    refine s_icmp_eq (tgt := 50) (pc := 43) dX1_readSaying_43 (by decide) (fun _ => ?_) (fun _ => ?_)
    · refine s_iconst (v := 0) (pc := 50) dX1_readSaying_50 (by decide) ?_
      exact s_zretB (b := false) (pc := 51) dX1_readSaying_51 rfl (fun _ _ q => q)
    · refine s_iconst (v := 1) (pc := 46) dX1_readSaying_46 (by decide) ?_
      refine s_goto (tgt := 51) (pc := 47) dX1_readSaying_47 (by decide) ?_
      exact s_zretB (b := true) (pc := 51) dX1_readSaying_51 rfl (fun _ _ q => q)
  · refine s_iconst (v := 0) (pc := 11) dX1_readSaying_11 (by decide) ?_
    exact s_zretB (b := false) (pc := 12) dX1_readSaying_12 rfl (fun _ _ q => q)
theorem pX1_readSaying_ok (ho : xok [(1, b0), (8, b1), (0, b2)] h.2.1) (hq_0_0 : f0 0 = some b1) (hq_0_1 : f0 1 = some b2) (s0 : RS) (s1 : RS) (s2 : RS) (a0 : Int32) : ∀ x, pX1_readSaying s0 s1 s2 a0 = some x → aMet l 2 yX1_readSaying cX1_readSaying 2 (some .boolean) [.ref b0, .int a0] (xw [(1, b0, f0, s0), (8, b1, f1, s1), (0, b2, f2, s2)] h) (some (.int (b2i x.1))) (xw [(1, b0, f0, s0), (8, b1, f1, x.2.1), (0, b2, f2, x.2.2)] h) := fun x hx => a_meth (ini := false) (y := yX1_readSaying) (by decide +kernel) (fun q => by cases q) (fun _ => Nat.le_of_ble_eq_true rfl) (pX1_readSaying_w ho hq_0_0 hq_0_1 s0 s1 s2 a0) x hx _ _ ⟨rfl, rfl⟩
end
section
variable {l : Launch} {n0 S0 : Nat} {h : aH} {b0 b1 b2 : Nat} {f0 f1 f2 : Nat → Option Nat}
abbrev MX1_readSettled : aM := (cX1_readSettled, RX1, 4, (some .boolean), false)
def X1_readSettled_j57 (s0 : RS) (s1 : RS) (s2 : RS) : Option (Bool × RS × RS) :=
  (pX8_blame s1 (5 : Int32)).bind fun x3 =>
  some (x3.1, x3.2, s2)
theorem X1_readSettled_j57_ok (ho : xok [(1, b0), (8, b1), (0, b2)] h.2.1) (hq_0_0 : f0 0 = some b1) (hq_0_1 : f0 1 = some b2) (s0 : RS) (s1 : RS) (s2 : RS) : aS l 2 MX1_readSettled n0 S0 (oΦ (fun (x : Bool × RS × RS) => ((some (.int (b2i x.1))), xw [(1, b0, f0, s0), (8, b1, f1, x.2.1), (0, b2, f2, x.2.2)] h))) 57 [(0, .ref b0)] [] (xw [(1, b0, f0, s0), (8, b1, f1, s1), (0, b2, f2, s2)] h) (X1_readSettled_j57 s0 s1 s2) := by
  unfold X1_readSettled_j57
  refine s_aload_n (pc := 57) 0 dX1_readSettled_57 rfl ?_
  refine xg_X1_18 0 ho rfl (pc := 58) dX1_readSettled_58 rfl hq_0_0 ?_
  refine s_iconst (v := 5) (pc := 61) dX1_readSettled_61 (by decide) ?_
  refine x_callV (M := MX1_readSettled) (L := [(1, b0, f0, s0), (8, b1, f1, s1), (0, b2, f2, s2)]) (h := h) (j := 1) (As := [.int 5]) (st := []) (A := fun (x : Bool × RS) => some (.int (b2i x.1))) (Lc := [(8, b1, f1, s1)]) (Lr := fun (x : Bool × RS) => [(8, b1, f1, x.2)]) (L2 := fun (x : Bool × RS) => [(1, b0, f0, s0), (8, b1, f1, x.2), (0, b2, f2, s2)]) cv_X1_46 (by decide) (pc := 62) dX1_readSettled_62 ho rfl xc0_8 rfl rfl (Nat.le_of_ble_eq_true rfl) (xovs (L := [(1, b0, f0, s0), (8, b1, f1, s1), (0, b2, f2, s2)]) (h := h) [(1, (8, b1, f1, s1))] ho ⟨rfl, trivial⟩).1 (fun x => (xovs (L := [(1, b0, f0, s0), (8, b1, f1, s1), (0, b2, f2, s2)]) (h := h) [(1, (8, b1, f1, x.2))] ho ⟨rfl, trivial⟩).1) (fun x hx => pX8_blame_ok (h := xw [(1, b0, f0, s0), (8, b1, f1, s1), (0, b2, f2, s2)] h) (f0 := f1) (xok_sub ho [1] rfl (by decide)) s1 (5 : Int32) x hx) rfl (fun x3 _ => ?_)
  exact s_zretB (b := x3.1) (pc := 65) dX1_readSettled_65 rfl (fun _ _ q => q)
def pX1_readSettled (s0 : RS) (s1 : RS) (s2 : RS) (a0 : Int32) : Option (Bool × RS × RS) :=
  (pX8_pass s1 (5 : Int32)).bind fun x1 =>
  if x1.1 = true then
    (pX8_changeHere x1.2 s2).bind fun x2 =>
    if x2.1 = (-1 : Int32) then
      some (false, x2.2, s2)
    else
      g_in x2.1 16 (
      if (s2.2.2.1 4 x2.1.toNatClampNeg) = 0 then
        X1_readSettled_j57 s0 x2.2 s2
      else
        g_in x2.1 16 (
        if (s2.2.2.1 4 x2.1.toNatClampNeg) = (4 : Int32) then
          X1_readSettled_j57 s0 x2.2 s2
        else
          (pX8_advance x2.2).bind fun x4 =>
          (pX8_pass x4 (9 : Int32)).bind fun x5 =>
          if x5.1 = true then
            (pX8_changeHere x5.2 s2).bind fun x6 =>
            if x6.1 = (-1 : Int32) then
              some (false, x6.2, s2)
            else
              g_in x2.1 16 (
              (pX0_isIn (s2.2.2.1 12 x2.1.toNatClampNeg) x6.1).bind fun x7 =>
              if x7 = true then
                (pX8_advance x6.2).bind fun x8 =>
                g_in x2.1 16 (
                g_in a0 16 (thn (uA s2 7 (upd (s2.2.2.1 7) a0.toNatClampNeg (s2.2.2.1 7 x2.1.toNatClampNeg))) fun s_9 =>
                g_in a0 16 (thn (uA s_9 13 (upd (s_9.2.2.1 13) a0.toNatClampNeg x2.1)) fun s_10 =>
                g_in a0 16 (thn (uA s_10 14 (upd (s_10.2.2.1 14) a0.toNatClampNeg x6.1)) fun s_11 =>
                g_in a0 16 (thn (uA s_11 9 (upd (s_11.2.2.1 9) a0.toNatClampNeg (((1 : Int32) <<< (x2.1 &&& 31)) ||| ((1 : Int32) <<< (x6.1 &&& 31))))) fun s_12 =>
                some (true, x8, s_12))))))
              else
                (pX8_blame x6.2 (5 : Int32)).bind fun x13 =>
                some (x13.1, x13.2, s2))
          else
            some (false, x5.2, s2)))
  else
    some (false, x1.2, s2)
theorem pX1_readSettled_w (ho : xok [(1, b0), (8, b1), (0, b2)] h.2.1) (hq_0_0 : f0 0 = some b1) (hq_0_1 : f0 1 = some b2) (s0 : RS) (s1 : RS) (s2 : RS) (a0 : Int32) : aS l 2 MX1_readSettled n0 S0 (oΦ (fun (x : Bool × RS × RS) => ((some (.int (b2i x.1))), xw [(1, b0, f0, s0), (8, b1, f1, x.2.1), (0, b2, f2, x.2.2)] h))) 0 [(0, .ref b0), (1, .int a0)] [] (xw [(1, b0, f0, s0), (8, b1, f1, s1), (0, b2, f2, s2)] h) (pX1_readSettled s0 s1 s2 a0) := by
  unfold pX1_readSettled
  refine s_aload_n (pc := 0) 0 dX1_readSettled_0 rfl ?_
  refine xg_X1_18 0 ho rfl (pc := 1) dX1_readSettled_1 rfl hq_0_0 ?_
  refine s_iconst (v := 5) (pc := 4) dX1_readSettled_4 (by decide) ?_
  refine x_callV (M := MX1_readSettled) (L := [(1, b0, f0, s0), (8, b1, f1, s1), (0, b2, f2, s2)]) (h := h) (j := 1) (As := [.int 5]) (st := []) (A := fun (x : Bool × RS) => some (.int (b2i x.1))) (Lc := [(8, b1, f1, s1)]) (Lr := fun (x : Bool × RS) => [(8, b1, f1, x.2)]) (L2 := fun (x : Bool × RS) => [(1, b0, f0, s0), (8, b1, f1, x.2), (0, b2, f2, s2)]) cv_X1_64 (by decide) (pc := 5) dX1_readSettled_5 ho rfl xc0_8 rfl rfl (Nat.le_of_ble_eq_true rfl) (xovs (L := [(1, b0, f0, s0), (8, b1, f1, s1), (0, b2, f2, s2)]) (h := h) [(1, (8, b1, f1, s1))] ho ⟨rfl, trivial⟩).1 (fun x => (xovs (L := [(1, b0, f0, s0), (8, b1, f1, s1), (0, b2, f2, s2)]) (h := h) [(1, (8, b1, f1, x.2))] ho ⟨rfl, trivial⟩).1) (fun x hx => pX8_pass_ok (h := xw [(1, b0, f0, s0), (8, b1, f1, s1), (0, b2, f2, s2)] h) (f0 := f1) (xok_sub ho [1] rfl (by decide)) s1 (5 : Int32) x hx) rfl (fun x1 _ => ?_)
  refine s_if_neB (tgt := 13) (pc := 8) dX1_readSettled_8 (by decide) (fun _ => ?_) (fun _ => ?_)
  · refine s_aload_n (pc := 13) 0 dX1_readSettled_13 rfl ?_
    refine xg_X1_18 0 ho rfl (pc := 14) dX1_readSettled_14 rfl hq_0_0 ?_
    refine s_aload_n (pc := 17) 0 dX1_readSettled_17 rfl ?_
    refine xg_X1_12 0 ho rfl (pc := 18) dX1_readSettled_18 rfl hq_0_1 ?_
    refine x_callV (M := MX1_readSettled) (L := [(1, b0, f0, s0), (8, b1, f1, x1.2), (0, b2, f2, s2)]) (h := h) (j := 1) (As := [.ref b2]) (st := []) (A := fun (x : Int32 × RS) => some (.int x.1)) (Lc := [(8, b1, f1, x1.2), (0, b2, f2, s2)]) (Lr := fun (x : Int32 × RS) => [(8, b1, f1, x.2), (0, b2, f2, s2)]) (L2 := fun (x : Int32 × RS) => [(1, b0, f0, s0), (8, b1, f1, x.2), (0, b2, f2, s2)]) cv_X1_130 (by decide) (pc := 21) dX1_readSettled_21 ho rfl xc0_8 rfl rfl (Nat.le_of_ble_eq_true rfl) (xovs (L := [(1, b0, f0, s0), (8, b1, f1, x1.2), (0, b2, f2, s2)]) (h := h) [(1, (8, b1, f1, x1.2)), (2, (0, b2, f2, s2))] ho ⟨rfl, rfl, trivial⟩).1 (fun x => (xovs (L := [(1, b0, f0, s0), (8, b1, f1, x1.2), (0, b2, f2, s2)]) (h := h) [(1, (8, b1, f1, x.2)), (2, (0, b2, f2, s2))] ho ⟨rfl, rfl, trivial⟩).1) (fun x hx => pX8_changeHere_ok (h := xw [(1, b0, f0, s0), (8, b1, f1, x1.2), (0, b2, f2, s2)] h) (f0 := f1) (f1 := f2) (xok_sub ho [1, 2] rfl (by decide)) x1.2 s2 x hx) rfl (fun x2 _ => ?_)
    refine s_istore_n (lv' := [(2, .int x2.1), (0, .ref b0), (1, .int a0)]) (pc := 24) dX1_readSettled_24 (by decide) rfl ?_
    refine s_iload_n (pc := 25) 0 dX1_readSettled_25 rfl ?_
    refine s_iconst (v := (-1)) (pc := 26) dX1_readSettled_26 (by decide) ?_
    refine s_icmp_ne (tgt := 32) (pc := 27) dX1_readSettled_27 (by decide) (fun _ => ?_) (fun _ => ?_)
    · refine s_iconst (v := 0) (pc := 30) dX1_readSettled_30 (by decide) ?_
      exact s_zretB (b := false) (pc := 31) dX1_readSettled_31 rfl (fun _ _ q => q)
    · refine s_aload_n (pc := 32) 1 dX1_readSettled_32 rfl ?_
      refine xg_X1_12 0 ho rfl (pc := 33) dX1_readSettled_33 rfl hq_0_1 ?_
      refine xg_X1_91 2 ho rfl (pc := 36) dX1_readSettled_36 rfl ?_
      refine s_iload_n (pc := 39) 0 dX1_readSettled_39 rfl ?_
      refine xl_0_4 2 ho rfl (pc := 40) dX1_readSettled_40 ?_
      refine s_if_eq (tgt := 57) (pc := 41) dX1_readSettled_41 (by decide) (fun _ => ?_) (fun _ => ?_)
      · refine s_sub [1] rfl ?_
        exact X1_readSettled_j57_ok ho hq_0_0 hq_0_1 s0 x2.2 s2
      · refine s_aload_n (pc := 44) 1 dX1_readSettled_44 rfl ?_
        refine xg_X1_12 0 ho rfl (pc := 45) dX1_readSettled_45 rfl hq_0_1 ?_
        refine xg_X1_91 2 ho rfl (pc := 48) dX1_readSettled_48 rfl ?_
        refine s_iload_n (pc := 51) 0 dX1_readSettled_51 rfl ?_
        refine xl_0_4 2 ho rfl (pc := 52) dX1_readSettled_52 ?_
        refine s_iconst (v := 4) (pc := 53) dX1_readSettled_53 (by decide) ?_
        refine s_icmp_ne (tgt := 66) (pc := 54) dX1_readSettled_54 (by decide) (fun _ => ?_) (fun _ => ?_)
        · refine s_sub [1] rfl ?_
          exact X1_readSettled_j57_ok ho hq_0_0 hq_0_1 s0 x2.2 s2
        · refine s_aload_n (pc := 66) 1 dX1_readSettled_66 rfl ?_
          refine xg_X1_18 0 ho rfl (pc := 67) dX1_readSettled_67 rfl hq_0_0 ?_
          refine x_callV (M := MX1_readSettled) (L := [(1, b0, f0, s0), (8, b1, f1, x2.2), (0, b2, f2, s2)]) (h := h) (j := 1) (As := []) (st := []) (A := fun (x : RS) => none) (Lc := [(8, b1, f1, x2.2)]) (Lr := fun (x : RS) => [(8, b1, f1, x)]) (L2 := fun (x : RS) => [(1, b0, f0, s0), (8, b1, f1, x), (0, b2, f2, s2)]) cv_X1_50 (by decide) (pc := 70) dX1_readSettled_70 ho rfl xc0_8 rfl rfl (Nat.le_of_ble_eq_true rfl) (xovs (L := [(1, b0, f0, s0), (8, b1, f1, x2.2), (0, b2, f2, s2)]) (h := h) [(1, (8, b1, f1, x2.2))] ho ⟨rfl, trivial⟩).1 (fun x => (xovs (L := [(1, b0, f0, s0), (8, b1, f1, x2.2), (0, b2, f2, s2)]) (h := h) [(1, (8, b1, f1, x))] ho ⟨rfl, trivial⟩).1) (fun x hx => pX8_advance_ok (h := xw [(1, b0, f0, s0), (8, b1, f1, x2.2), (0, b2, f2, s2)] h) (f0 := f1) (xok_sub ho [1] rfl (by decide)) x2.2 x hx) rfl (fun x4 _ => ?_)
          refine s_aload_n (pc := 73) 1 dX1_readSettled_73 rfl ?_
          refine xg_X1_18 0 ho rfl (pc := 74) dX1_readSettled_74 rfl hq_0_0 ?_
          refine s_bipush (v := 9) (pc := 77) dX1_readSettled_77 (by decide) ?_
          refine x_callV (M := MX1_readSettled) (L := [(1, b0, f0, s0), (8, b1, f1, x4), (0, b2, f2, s2)]) (h := h) (j := 1) (As := [.int 9]) (st := []) (A := fun (x : Bool × RS) => some (.int (b2i x.1))) (Lc := [(8, b1, f1, x4)]) (Lr := fun (x : Bool × RS) => [(8, b1, f1, x.2)]) (L2 := fun (x : Bool × RS) => [(1, b0, f0, s0), (8, b1, f1, x.2), (0, b2, f2, s2)]) cv_X1_64 (by decide) (pc := 79) dX1_readSettled_79 ho rfl xc0_8 rfl rfl (Nat.le_of_ble_eq_true rfl) (xovs (L := [(1, b0, f0, s0), (8, b1, f1, x4), (0, b2, f2, s2)]) (h := h) [(1, (8, b1, f1, x4))] ho ⟨rfl, trivial⟩).1 (fun x => (xovs (L := [(1, b0, f0, s0), (8, b1, f1, x4), (0, b2, f2, s2)]) (h := h) [(1, (8, b1, f1, x.2))] ho ⟨rfl, trivial⟩).1) (fun x hx => pX8_pass_ok (h := xw [(1, b0, f0, s0), (8, b1, f1, x4), (0, b2, f2, s2)] h) (f0 := f1) (xok_sub ho [1] rfl (by decide)) x4 (9 : Int32) x hx) rfl (fun x5 _ => ?_)
          refine s_if_neB (tgt := 87) (pc := 82) dX1_readSettled_82 (by decide) (fun _ => ?_) (fun _ => ?_)
          · refine s_aload_n (pc := 87) 1 dX1_readSettled_87 rfl ?_
            refine xg_X1_18 0 ho rfl (pc := 88) dX1_readSettled_88 rfl hq_0_0 ?_
            refine s_aload_n (pc := 91) 1 dX1_readSettled_91 rfl ?_
            refine xg_X1_12 0 ho rfl (pc := 92) dX1_readSettled_92 rfl hq_0_1 ?_
            refine x_callV (M := MX1_readSettled) (L := [(1, b0, f0, s0), (8, b1, f1, x5.2), (0, b2, f2, s2)]) (h := h) (j := 1) (As := [.ref b2]) (st := []) (A := fun (x : Int32 × RS) => some (.int x.1)) (Lc := [(8, b1, f1, x5.2), (0, b2, f2, s2)]) (Lr := fun (x : Int32 × RS) => [(8, b1, f1, x.2), (0, b2, f2, s2)]) (L2 := fun (x : Int32 × RS) => [(1, b0, f0, s0), (8, b1, f1, x.2), (0, b2, f2, s2)]) cv_X1_130 (by decide) (pc := 95) dX1_readSettled_95 ho rfl xc0_8 rfl rfl (Nat.le_of_ble_eq_true rfl) (xovs (L := [(1, b0, f0, s0), (8, b1, f1, x5.2), (0, b2, f2, s2)]) (h := h) [(1, (8, b1, f1, x5.2)), (2, (0, b2, f2, s2))] ho ⟨rfl, rfl, trivial⟩).1 (fun x => (xovs (L := [(1, b0, f0, s0), (8, b1, f1, x5.2), (0, b2, f2, s2)]) (h := h) [(1, (8, b1, f1, x.2)), (2, (0, b2, f2, s2))] ho ⟨rfl, rfl, trivial⟩).1) (fun x hx => pX8_changeHere_ok (h := xw [(1, b0, f0, s0), (8, b1, f1, x5.2), (0, b2, f2, s2)] h) (f0 := f1) (f1 := f2) (xok_sub ho [1, 2] rfl (by decide)) x5.2 s2 x hx) rfl (fun x6 _ => ?_)
            refine s_istore_n (lv' := [(3, .int x6.1), (2, .int x2.1), (0, .ref b0), (1, .int a0)]) (pc := 98) dX1_readSettled_98 (by decide) rfl ?_
            refine s_iload_n (pc := 99) 0 dX1_readSettled_99 rfl ?_
            refine s_iconst (v := (-1)) (pc := 100) dX1_readSettled_100 (by decide) ?_
            refine s_icmp_ne (tgt := 106) (pc := 101) dX1_readSettled_101 (by decide) (fun _ => ?_) (fun _ => ?_)
            · refine s_iconst (v := 0) (pc := 104) dX1_readSettled_104 (by decide) ?_
              exact s_zretB (b := false) (pc := 105) dX1_readSettled_105 rfl (fun _ _ q => q)
            · refine s_aload_n (pc := 106) 2 dX1_readSettled_106 rfl ?_
              refine xg_X1_12 0 ho rfl (pc := 107) dX1_readSettled_107 rfl hq_0_1 ?_
              refine xg_X1_137 2 ho rfl (pc := 110) dX1_readSettled_110 rfl ?_
              refine s_iload_n (pc := 113) 1 dX1_readSettled_113 rfl ?_
              refine xl_0_12 2 ho rfl (pc := 114) dX1_readSettled_114 ?_
              refine s_iload_n (pc := 115) 0 dX1_readSettled_115 rfl ?_
              refine s_callS (M := MX1_readSettled) (As := [.int (s2.2.2.1 12 x2.1.toNatClampNeg), .int x6.1]) (st := []) (Ψ := fun (x : Bool) => (some (.int (b2i x)), xw [(1, b0, f0, s0), (8, b1, f1, x6.2), (0, b2, f2, s2)] h)) cs_X1_140 (by decide) (pc := 116) dX1_readSettled_116 rfl (Nat.le_of_ble_eq_true rfl) (fun x hx => pX0_isIn_ok (s2.2.2.1 12 x2.1.toNatClampNeg) x6.1 x hx) rfl (fun x7 _ => ?_)
              refine s_if_neB (tgt := 131) (pc := 119) dX1_readSettled_119 (by decide) (fun _ => ?_) (fun _ => ?_)
              · refine s_aload_n (pc := 131) 2 dX1_readSettled_131 rfl ?_
                refine xg_X1_18 0 ho rfl (pc := 132) dX1_readSettled_132 rfl hq_0_0 ?_
                refine x_callV (M := MX1_readSettled) (L := [(1, b0, f0, s0), (8, b1, f1, x6.2), (0, b2, f2, s2)]) (h := h) (j := 1) (As := []) (st := []) (A := fun (x : RS) => none) (Lc := [(8, b1, f1, x6.2)]) (Lr := fun (x : RS) => [(8, b1, f1, x)]) (L2 := fun (x : RS) => [(1, b0, f0, s0), (8, b1, f1, x), (0, b2, f2, s2)]) cv_X1_50 (by decide) (pc := 135) dX1_readSettled_135 ho rfl xc0_8 rfl rfl (Nat.le_of_ble_eq_true rfl) (xovs (L := [(1, b0, f0, s0), (8, b1, f1, x6.2), (0, b2, f2, s2)]) (h := h) [(1, (8, b1, f1, x6.2))] ho ⟨rfl, trivial⟩).1 (fun x => (xovs (L := [(1, b0, f0, s0), (8, b1, f1, x6.2), (0, b2, f2, s2)]) (h := h) [(1, (8, b1, f1, x))] ho ⟨rfl, trivial⟩).1) (fun x hx => pX8_advance_ok (h := xw [(1, b0, f0, s0), (8, b1, f1, x6.2), (0, b2, f2, s2)] h) (f0 := f1) (xok_sub ho [1] rfl (by decide)) x6.2 x hx) rfl (fun x8 _ => ?_)
                refine s_aload_n (pc := 138) 2 dX1_readSettled_138 rfl ?_
                refine xg_X1_12 0 ho rfl (pc := 139) dX1_readSettled_139 rfl hq_0_1 ?_
                refine xg_X1_108 2 ho rfl (pc := 142) dX1_readSettled_142 rfl ?_
                refine s_iload_n (pc := 145) 3 dX1_readSettled_145 rfl ?_
                refine s_aload_n (pc := 146) 2 dX1_readSettled_146 rfl ?_
                refine xg_X1_12 0 ho rfl (pc := 147) dX1_readSettled_147 rfl hq_0_1 ?_
                refine xg_X1_108 2 ho rfl (pc := 150) dX1_readSettled_150 rfl ?_
                refine s_iload_n (pc := 153) 1 dX1_readSettled_153 rfl ?_
                refine xl_0_7 2 ho rfl (pc := 154) dX1_readSettled_154 ?_
                refine xs_0_7 (L' := fun s_9 => [(1, b0, f0, s0), (8, b1, f1, x8), (0, b2, f2, s_9)]) 2 ho rfl (fun _ => rfl) (pc := 155) dX1_readSettled_155 (fun s_9 => ?_)
                refine s_aload_n (pc := 156) 2 dX1_readSettled_156 rfl ?_
                refine xg_X1_12 0 ho rfl (pc := 157) dX1_readSettled_157 rfl hq_0_1 ?_
                refine xg_X1_143 2 ho rfl (pc := 160) dX1_readSettled_160 rfl ?_
                refine s_iload_n (pc := 163) 3 dX1_readSettled_163 rfl ?_
                refine s_iload_n (pc := 164) 1 dX1_readSettled_164 rfl ?_
                refine xs_0_13 (L' := fun s_10 => [(1, b0, f0, s0), (8, b1, f1, x8), (0, b2, f2, s_10)]) 2 ho rfl (fun _ => rfl) (pc := 165) dX1_readSettled_165 (fun s_10 => ?_)
                refine s_aload_n (pc := 166) 2 dX1_readSettled_166 rfl ?_
                refine xg_X1_12 0 ho rfl (pc := 167) dX1_readSettled_167 rfl hq_0_1 ?_
                refine xg_X1_146 2 ho rfl (pc := 170) dX1_readSettled_170 rfl ?_
                refine s_iload_n (pc := 173) 3 dX1_readSettled_173 rfl ?_
                refine s_iload_n (pc := 174) 0 dX1_readSettled_174 rfl ?_
                refine xs_0_14 (L' := fun s_11 => [(1, b0, f0, s0), (8, b1, f1, x8), (0, b2, f2, s_11)]) 2 ho rfl (fun _ => rfl) (pc := 175) dX1_readSettled_175 (fun s_11 => ?_)
                refine s_aload_n (pc := 176) 2 dX1_readSettled_176 rfl ?_
                refine xg_X1_12 0 ho rfl (pc := 177) dX1_readSettled_177 rfl hq_0_1 ?_
                refine xg_X1_134 2 ho rfl (pc := 180) dX1_readSettled_180 rfl ?_
                refine s_iload_n (pc := 183) 3 dX1_readSettled_183 rfl ?_
                refine s_iconst (v := 1) (pc := 184) dX1_readSettled_184 (by decide) ?_
                refine s_iload_n (pc := 185) 1 dX1_readSettled_185 rfl ?_
                refine s_ishl (pc := 186) dX1_readSettled_186 ?_
                refine s_iconst (v := 1) (pc := 187) dX1_readSettled_187 (by decide) ?_
                refine s_iload_n (pc := 188) 0 dX1_readSettled_188 rfl ?_
                refine s_ishl (pc := 189) dX1_readSettled_189 ?_
                refine s_ior (pc := 190) dX1_readSettled_190 ?_
                refine xs_0_9 (L' := fun s_12 => [(1, b0, f0, s0), (8, b1, f1, x8), (0, b2, f2, s_12)]) 2 ho rfl (fun _ => rfl) (pc := 191) dX1_readSettled_191 (fun s_12 => ?_)
                refine s_iconst (v := 1) (pc := 192) dX1_readSettled_192 (by decide) ?_
                exact s_zretB (b := true) (pc := 193) dX1_readSettled_193 rfl (fun _ _ q => q)
              · refine s_aload_n (pc := 122) 2 dX1_readSettled_122 rfl ?_
                refine xg_X1_18 0 ho rfl (pc := 123) dX1_readSettled_123 rfl hq_0_0 ?_
                refine s_iconst (v := 5) (pc := 126) dX1_readSettled_126 (by decide) ?_
                refine x_callV (M := MX1_readSettled) (L := [(1, b0, f0, s0), (8, b1, f1, x6.2), (0, b2, f2, s2)]) (h := h) (j := 1) (As := [.int 5]) (st := []) (A := fun (x : Bool × RS) => some (.int (b2i x.1))) (Lc := [(8, b1, f1, x6.2)]) (Lr := fun (x : Bool × RS) => [(8, b1, f1, x.2)]) (L2 := fun (x : Bool × RS) => [(1, b0, f0, s0), (8, b1, f1, x.2), (0, b2, f2, s2)]) cv_X1_46 (by decide) (pc := 127) dX1_readSettled_127 ho rfl xc0_8 rfl rfl (Nat.le_of_ble_eq_true rfl) (xovs (L := [(1, b0, f0, s0), (8, b1, f1, x6.2), (0, b2, f2, s2)]) (h := h) [(1, (8, b1, f1, x6.2))] ho ⟨rfl, trivial⟩).1 (fun x => (xovs (L := [(1, b0, f0, s0), (8, b1, f1, x6.2), (0, b2, f2, s2)]) (h := h) [(1, (8, b1, f1, x.2))] ho ⟨rfl, trivial⟩).1) (fun x hx => pX8_blame_ok (h := xw [(1, b0, f0, s0), (8, b1, f1, x6.2), (0, b2, f2, s2)] h) (f0 := f1) (xok_sub ho [1] rfl (by decide)) x6.2 (5 : Int32) x hx) rfl (fun x13 _ => ?_)
                exact s_zretB (b := x13.1) (pc := 130) dX1_readSettled_130 rfl (fun _ _ q => q)
          · refine s_iconst (v := 0) (pc := 85) dX1_readSettled_85 (by decide) ?_
            exact s_zretB (b := false) (pc := 86) dX1_readSettled_86 rfl (fun _ _ q => q)
  · refine s_iconst (v := 0) (pc := 11) dX1_readSettled_11 (by decide) ?_
    exact s_zretB (b := false) (pc := 12) dX1_readSettled_12 rfl (fun _ _ q => q)
theorem pX1_readSettled_ok (ho : xok [(1, b0), (8, b1), (0, b2)] h.2.1) (hq_0_0 : f0 0 = some b1) (hq_0_1 : f0 1 = some b2) (s0 : RS) (s1 : RS) (s2 : RS) (a0 : Int32) : ∀ x, pX1_readSettled s0 s1 s2 a0 = some x → aMet l 2 yX1_readSettled cX1_readSettled 4 (some .boolean) [.ref b0, .int a0] (xw [(1, b0, f0, s0), (8, b1, f1, s1), (0, b2, f2, s2)] h) (some (.int (b2i x.1))) (xw [(1, b0, f0, s0), (8, b1, f1, x.2.1), (0, b2, f2, x.2.2)] h) := fun x hx => a_meth (ini := false) (y := yX1_readSettled) (by decide +kernel) (fun q => by cases q) (fun _ => Nat.le_of_ble_eq_true rfl) (pX1_readSettled_w ho hq_0_0 hq_0_1 s0 s1 s2 a0) x hx _ _ ⟨rfl, rfl⟩
end
section
variable {l : Launch} {n0 S0 : Nat} {h : aH} {b0 b1 b2 : Nat} {f0 f1 f2 : Nat → Option Nat}
abbrev MX1_readBody : aM := (cX1_readBody, RX1, 3, (some .boolean), false)
def pX1_readBody (s0 : RS) (s1 : RS) (s2 : RS) (a0 : Int32) (a1 : Int32) : Option (Bool × RS × RS) :=
  if a1 = 0 then
    g_in a0 16 (thn (uA s2 7 (upd (s2.2.2.1 7) a0.toNatClampNeg a0)) fun s_1 =>
    (pX1_readNumber s0 s1 s_1 a0 (2 : Int32)).bind fun x2 =>
    if x2.1 = true then
      (pX1_readSaying s0 x2.2.1 x2.2.2 a0).bind fun x3 =>
      if x3.1 = true then
        some (true, x3.2.1, x3.2.2)
      else
        some (false, x3.2.1, x3.2.2)
    else
      some (false, x2.2.1, x2.2.2))
  else
    if a1 = 1 then
      (pX1_readOf s0 s1 s2 a0).bind fun x4 =>
      some (x4.1, x4.2.1, x4.2.2)
    else
      if a1 = 2 then
        (pX1_readOf s0 s1 s2 a0).bind fun x5 =>
        if x5.1 = true then
          (pX1_readNumber s0 x5.2.1 x5.2.2 a0 (3 : Int32)).bind fun x6 =>
          if x6.1 = true then
            some (true, x6.2.1, x6.2.2)
          else
            some (false, x6.2.1, x6.2.2)
        else
          some (false, x5.2.1, x5.2.2)
      else
        if a1 = 3 then
          (pX1_readOf s0 s1 s2 a0).bind fun x7 =>
          if x7.1 = true then
            (pX1_readNumber s0 x7.2.1 x7.2.2 a0 (2 : Int32)).bind fun x8 =>
            if x8.1 = true then
              some (true, x8.2.1, x8.2.2)
            else
              some (false, x8.2.1, x8.2.2)
          else
            some (false, x7.2.1, x7.2.2)
        else
          (pX1_readSettled s0 s1 s2 a0).bind fun x9 =>
          some (x9.1, x9.2.1, x9.2.2)
theorem pX1_readBody_w (ho : xok [(1, b0), (8, b1), (0, b2)] h.2.1) (hq_0_0 : f0 0 = some b1) (hq_0_1 : f0 1 = some b2) (s0 : RS) (s1 : RS) (s2 : RS) (a0 : Int32) (a1 : Int32) : aS l 3 MX1_readBody n0 S0 (oΦ (fun (x : Bool × RS × RS) => ((some (.int (b2i x.1))), xw [(1, b0, f0, s0), (8, b1, f1, x.2.1), (0, b2, f2, x.2.2)] h))) 0 [(0, .ref b0), (1, .int a0), (2, .int a1)] [] (xw [(1, b0, f0, s0), (8, b1, f1, s1), (0, b2, f2, s2)] h) (pX1_readBody s0 s1 s2 a0 a1) := by
  unfold pX1_readBody
  refine s_iload_n (pc := 0) 2 dX1_readBody_0 rfl ?_
  refine s_case (c := a1 = 0) (fun c0 => ?_) (fun n10 => ?_)
  · refine s_tabIn (tgt := 32) (off := 31) (pc := 1) dX1_readBody_1 (by rw [c0]; decide) (by rw [c0]; decide) (by rw [c0]; rfl) (by decide) ?_
    refine s_aload_n (pc := 32) 0 dX1_readBody_32 rfl ?_
    refine xg_X1_12 0 ho rfl (pc := 33) dX1_readBody_33 rfl hq_0_1 ?_
    refine xg_X1_108 2 ho rfl (pc := 36) dX1_readBody_36 rfl ?_
    refine s_iload_n (pc := 39) 1 dX1_readBody_39 rfl ?_
    refine s_iload_n (pc := 40) 1 dX1_readBody_40 rfl ?_
    refine xs_0_7 (L' := fun s_1 => [(1, b0, f0, s0), (8, b1, f1, s1), (0, b2, f2, s_1)]) 2 ho rfl (fun _ => rfl) (pc := 41) dX1_readBody_41 (fun s_1 => ?_)
    refine s_aload_n (pc := 42) 0 dX1_readBody_42 rfl ?_
    refine s_iload_n (pc := 43) 1 dX1_readBody_43 rfl ?_
    refine s_iconst (v := 2) (pc := 44) dX1_readBody_44 (by decide) ?_
    refine x_callV (M := MX1_readBody) (L := [(1, b0, f0, s0), (8, b1, f1, s1), (0, b2, f2, s_1)]) (h := h) (j := 0) (As := [.int a0, .int 2]) (st := []) (A := fun (x : Bool × RS × RS) => some (.int (b2i x.1))) (Lc := [(1, b0, f0, s0), (8, b1, f1, s1), (0, b2, f2, s_1)]) (Lr := fun (x : Bool × RS × RS) => [(1, b0, f0, s0), (8, b1, f1, x.2.1), (0, b2, f2, x.2.2)]) (L2 := fun (x : Bool × RS × RS) => [(1, b0, f0, s0), (8, b1, f1, x.2.1), (0, b2, f2, x.2.2)]) cv_X1_111 (by decide) (pc := 45) dX1_readBody_45 ho rfl xc0_1 rfl rfl (Nat.le_of_ble_eq_true rfl) (xovs (L := [(1, b0, f0, s0), (8, b1, f1, s1), (0, b2, f2, s_1)]) (h := h) [(0, (1, b0, f0, s0)), (1, (8, b1, f1, s1)), (2, (0, b2, f2, s_1))] ho ⟨rfl, rfl, rfl, trivial⟩).1 (fun x => (xovs (L := [(1, b0, f0, s0), (8, b1, f1, s1), (0, b2, f2, s_1)]) (h := h) [(0, (1, b0, f0, s0)), (1, (8, b1, f1, x.2.1)), (2, (0, b2, f2, x.2.2))] ho ⟨rfl, rfl, rfl, trivial⟩).1) (fun x hx => pX1_readNumber_ok (h := xw [(1, b0, f0, s0), (8, b1, f1, s1), (0, b2, f2, s_1)] h) (f0 := f0) (f1 := f1) (f2 := f2) (xok_sub ho [0, 1, 2] rfl (by decide)) hq_0_0 hq_0_1 s0 s1 s_1 a0 (2 : Int32) x hx) rfl (fun x2 _ => ?_)
    refine s_if_eqB (tgt := 63) (pc := 48) dX1_readBody_48 (by decide) (fun _ => ?_) (fun _ => ?_)
    · refine s_aload_n (pc := 51) 0 dX1_readBody_51 rfl ?_
      refine s_iload_n (pc := 52) 1 dX1_readBody_52 rfl ?_
      refine x_callV (M := MX1_readBody) (L := [(1, b0, f0, s0), (8, b1, f1, x2.2.1), (0, b2, f2, x2.2.2)]) (h := h) (j := 0) (As := [.int a0]) (st := []) (A := fun (x : Bool × RS × RS) => some (.int (b2i x.1))) (Lc := [(1, b0, f0, s0), (8, b1, f1, x2.2.1), (0, b2, f2, x2.2.2)]) (Lr := fun (x : Bool × RS × RS) => [(1, b0, f0, s0), (8, b1, f1, x.2.1), (0, b2, f2, x.2.2)]) (L2 := fun (x : Bool × RS × RS) => [(1, b0, f0, s0), (8, b1, f1, x.2.1), (0, b2, f2, x.2.2)]) cv_X1_114 (by decide) (pc := 53) dX1_readBody_53 ho rfl xc0_1 rfl rfl (Nat.le_of_ble_eq_true rfl) (xovs (L := [(1, b0, f0, s0), (8, b1, f1, x2.2.1), (0, b2, f2, x2.2.2)]) (h := h) [(0, (1, b0, f0, s0)), (1, (8, b1, f1, x2.2.1)), (2, (0, b2, f2, x2.2.2))] ho ⟨rfl, rfl, rfl, trivial⟩).1 (fun x => (xovs (L := [(1, b0, f0, s0), (8, b1, f1, x2.2.1), (0, b2, f2, x2.2.2)]) (h := h) [(0, (1, b0, f0, s0)), (1, (8, b1, f1, x.2.1)), (2, (0, b2, f2, x.2.2))] ho ⟨rfl, rfl, rfl, trivial⟩).1) (fun x hx => pX1_readSaying_ok (h := xw [(1, b0, f0, s0), (8, b1, f1, x2.2.1), (0, b2, f2, x2.2.2)] h) (f0 := f0) (f1 := f1) (f2 := f2) (xok_sub ho [0, 1, 2] rfl (by decide)) hq_0_0 hq_0_1 s0 x2.2.1 x2.2.2 a0 x hx) rfl (fun x3 _ => ?_)
      refine s_if_eqB (tgt := 63) (pc := 56) dX1_readBody_56 (by decide) (fun _ => ?_) (fun _ => ?_)
      · refine s_iconst (v := 1) (pc := 59) dX1_readBody_59 (by decide) ?_
        refine s_goto (tgt := 64) (pc := 60) dX1_readBody_60 (by decide) ?_
        exact s_zretB (b := true) (pc := 64) dX1_readBody_64 rfl (fun _ _ q => q)
      · refine s_iconst (v := 0) (pc := 63) dX1_readBody_63 (by decide) ?_
        exact s_zretB (b := false) (pc := 64) dX1_readBody_64 rfl (fun _ _ q => q)
    · refine s_iconst (v := 0) (pc := 63) dX1_readBody_63 (by decide) ?_
      exact s_zretB (b := false) (pc := 64) dX1_readBody_64 rfl (fun _ _ q => q)
  · refine s_case (c := a1 = 1) (fun c0 => ?_) (fun n11 => ?_)
    · refine s_tabIn (tgt := 65) (off := 64) (pc := 1) dX1_readBody_1 (by rw [c0]; decide) (by rw [c0]; decide) (by rw [c0]; rfl) (by decide) ?_
      refine s_aload_n (pc := 65) 0 dX1_readBody_65 rfl ?_
      refine s_iload_n (pc := 66) 1 dX1_readBody_66 rfl ?_
      refine x_callV (M := MX1_readBody) (L := [(1, b0, f0, s0), (8, b1, f1, s1), (0, b2, f2, s2)]) (h := h) (j := 0) (As := [.int a0]) (st := []) (A := fun (x : Bool × RS × RS) => some (.int (b2i x.1))) (Lc := [(1, b0, f0, s0), (8, b1, f1, s1), (0, b2, f2, s2)]) (Lr := fun (x : Bool × RS × RS) => [(1, b0, f0, s0), (8, b1, f1, x.2.1), (0, b2, f2, x.2.2)]) (L2 := fun (x : Bool × RS × RS) => [(1, b0, f0, s0), (8, b1, f1, x.2.1), (0, b2, f2, x.2.2)]) cv_X1_117 (by decide) (pc := 67) dX1_readBody_67 ho rfl xc0_1 rfl rfl (Nat.le_of_ble_eq_true rfl) (xovs (L := [(1, b0, f0, s0), (8, b1, f1, s1), (0, b2, f2, s2)]) (h := h) [(0, (1, b0, f0, s0)), (1, (8, b1, f1, s1)), (2, (0, b2, f2, s2))] ho ⟨rfl, rfl, rfl, trivial⟩).1 (fun x => (xovs (L := [(1, b0, f0, s0), (8, b1, f1, s1), (0, b2, f2, s2)]) (h := h) [(0, (1, b0, f0, s0)), (1, (8, b1, f1, x.2.1)), (2, (0, b2, f2, x.2.2))] ho ⟨rfl, rfl, rfl, trivial⟩).1) (fun x hx => pX1_readOf_ok (h := xw [(1, b0, f0, s0), (8, b1, f1, s1), (0, b2, f2, s2)] h) (f0 := f0) (f1 := f1) (f2 := f2) (xok_sub ho [0, 1, 2] rfl (by decide)) hq_0_0 hq_0_1 s0 s1 s2 a0 x hx) rfl (fun x4 _ => ?_)
      exact s_zretB (b := x4.1) (pc := 70) dX1_readBody_70 rfl (fun _ _ q => q)
    · refine s_case (c := a1 = 2) (fun c0 => ?_) (fun n12 => ?_)
      · refine s_tabIn (tgt := 71) (off := 70) (pc := 1) dX1_readBody_1 (by rw [c0]; decide) (by rw [c0]; decide) (by rw [c0]; rfl) (by decide) ?_
        refine s_aload_n (pc := 71) 0 dX1_readBody_71 rfl ?_
        refine s_iload_n (pc := 72) 1 dX1_readBody_72 rfl ?_
        refine x_callV (M := MX1_readBody) (L := [(1, b0, f0, s0), (8, b1, f1, s1), (0, b2, f2, s2)]) (h := h) (j := 0) (As := [.int a0]) (st := []) (A := fun (x : Bool × RS × RS) => some (.int (b2i x.1))) (Lc := [(1, b0, f0, s0), (8, b1, f1, s1), (0, b2, f2, s2)]) (Lr := fun (x : Bool × RS × RS) => [(1, b0, f0, s0), (8, b1, f1, x.2.1), (0, b2, f2, x.2.2)]) (L2 := fun (x : Bool × RS × RS) => [(1, b0, f0, s0), (8, b1, f1, x.2.1), (0, b2, f2, x.2.2)]) cv_X1_117 (by decide) (pc := 73) dX1_readBody_73 ho rfl xc0_1 rfl rfl (Nat.le_of_ble_eq_true rfl) (xovs (L := [(1, b0, f0, s0), (8, b1, f1, s1), (0, b2, f2, s2)]) (h := h) [(0, (1, b0, f0, s0)), (1, (8, b1, f1, s1)), (2, (0, b2, f2, s2))] ho ⟨rfl, rfl, rfl, trivial⟩).1 (fun x => (xovs (L := [(1, b0, f0, s0), (8, b1, f1, s1), (0, b2, f2, s2)]) (h := h) [(0, (1, b0, f0, s0)), (1, (8, b1, f1, x.2.1)), (2, (0, b2, f2, x.2.2))] ho ⟨rfl, rfl, rfl, trivial⟩).1) (fun x hx => pX1_readOf_ok (h := xw [(1, b0, f0, s0), (8, b1, f1, s1), (0, b2, f2, s2)] h) (f0 := f0) (f1 := f1) (f2 := f2) (xok_sub ho [0, 1, 2] rfl (by decide)) hq_0_0 hq_0_1 s0 s1 s2 a0 x hx) rfl (fun x5 _ => ?_)
        refine s_if_eqB (tgt := 92) (pc := 76) dX1_readBody_76 (by decide) (fun _ => ?_) (fun _ => ?_)
        · refine s_aload_n (pc := 79) 0 dX1_readBody_79 rfl ?_
          refine s_iload_n (pc := 80) 1 dX1_readBody_80 rfl ?_
          refine s_iconst (v := 3) (pc := 81) dX1_readBody_81 (by decide) ?_
          refine x_callV (M := MX1_readBody) (L := [(1, b0, f0, s0), (8, b1, f1, x5.2.1), (0, b2, f2, x5.2.2)]) (h := h) (j := 0) (As := [.int a0, .int 3]) (st := []) (A := fun (x : Bool × RS × RS) => some (.int (b2i x.1))) (Lc := [(1, b0, f0, s0), (8, b1, f1, x5.2.1), (0, b2, f2, x5.2.2)]) (Lr := fun (x : Bool × RS × RS) => [(1, b0, f0, s0), (8, b1, f1, x.2.1), (0, b2, f2, x.2.2)]) (L2 := fun (x : Bool × RS × RS) => [(1, b0, f0, s0), (8, b1, f1, x.2.1), (0, b2, f2, x.2.2)]) cv_X1_111 (by decide) (pc := 82) dX1_readBody_82 ho rfl xc0_1 rfl rfl (Nat.le_of_ble_eq_true rfl) (xovs (L := [(1, b0, f0, s0), (8, b1, f1, x5.2.1), (0, b2, f2, x5.2.2)]) (h := h) [(0, (1, b0, f0, s0)), (1, (8, b1, f1, x5.2.1)), (2, (0, b2, f2, x5.2.2))] ho ⟨rfl, rfl, rfl, trivial⟩).1 (fun x => (xovs (L := [(1, b0, f0, s0), (8, b1, f1, x5.2.1), (0, b2, f2, x5.2.2)]) (h := h) [(0, (1, b0, f0, s0)), (1, (8, b1, f1, x.2.1)), (2, (0, b2, f2, x.2.2))] ho ⟨rfl, rfl, rfl, trivial⟩).1) (fun x hx => pX1_readNumber_ok (h := xw [(1, b0, f0, s0), (8, b1, f1, x5.2.1), (0, b2, f2, x5.2.2)] h) (f0 := f0) (f1 := f1) (f2 := f2) (xok_sub ho [0, 1, 2] rfl (by decide)) hq_0_0 hq_0_1 s0 x5.2.1 x5.2.2 a0 (3 : Int32) x hx) rfl (fun x6 _ => ?_)
          refine s_if_eqB (tgt := 92) (pc := 85) dX1_readBody_85 (by decide) (fun _ => ?_) (fun _ => ?_)
          · refine s_iconst (v := 1) (pc := 88) dX1_readBody_88 (by decide) ?_
            refine s_goto (tgt := 93) (pc := 89) dX1_readBody_89 (by decide) ?_
            exact s_zretB (b := true) (pc := 93) dX1_readBody_93 rfl (fun _ _ q => q)
          · refine s_iconst (v := 0) (pc := 92) dX1_readBody_92 (by decide) ?_
            exact s_zretB (b := false) (pc := 93) dX1_readBody_93 rfl (fun _ _ q => q)
        · refine s_iconst (v := 0) (pc := 92) dX1_readBody_92 (by decide) ?_
          exact s_zretB (b := false) (pc := 93) dX1_readBody_93 rfl (fun _ _ q => q)
      · refine s_case (c := a1 = 3) (fun c0 => ?_) (fun n13 => ?_)
        · refine s_tabIn (tgt := 94) (off := 93) (pc := 1) dX1_readBody_1 (by rw [c0]; decide) (by rw [c0]; decide) (by rw [c0]; rfl) (by decide) ?_
          refine s_aload_n (pc := 94) 0 dX1_readBody_94 rfl ?_
          refine s_iload_n (pc := 95) 1 dX1_readBody_95 rfl ?_
          refine x_callV (M := MX1_readBody) (L := [(1, b0, f0, s0), (8, b1, f1, s1), (0, b2, f2, s2)]) (h := h) (j := 0) (As := [.int a0]) (st := []) (A := fun (x : Bool × RS × RS) => some (.int (b2i x.1))) (Lc := [(1, b0, f0, s0), (8, b1, f1, s1), (0, b2, f2, s2)]) (Lr := fun (x : Bool × RS × RS) => [(1, b0, f0, s0), (8, b1, f1, x.2.1), (0, b2, f2, x.2.2)]) (L2 := fun (x : Bool × RS × RS) => [(1, b0, f0, s0), (8, b1, f1, x.2.1), (0, b2, f2, x.2.2)]) cv_X1_117 (by decide) (pc := 96) dX1_readBody_96 ho rfl xc0_1 rfl rfl (Nat.le_of_ble_eq_true rfl) (xovs (L := [(1, b0, f0, s0), (8, b1, f1, s1), (0, b2, f2, s2)]) (h := h) [(0, (1, b0, f0, s0)), (1, (8, b1, f1, s1)), (2, (0, b2, f2, s2))] ho ⟨rfl, rfl, rfl, trivial⟩).1 (fun x => (xovs (L := [(1, b0, f0, s0), (8, b1, f1, s1), (0, b2, f2, s2)]) (h := h) [(0, (1, b0, f0, s0)), (1, (8, b1, f1, x.2.1)), (2, (0, b2, f2, x.2.2))] ho ⟨rfl, rfl, rfl, trivial⟩).1) (fun x hx => pX1_readOf_ok (h := xw [(1, b0, f0, s0), (8, b1, f1, s1), (0, b2, f2, s2)] h) (f0 := f0) (f1 := f1) (f2 := f2) (xok_sub ho [0, 1, 2] rfl (by decide)) hq_0_0 hq_0_1 s0 s1 s2 a0 x hx) rfl (fun x7 _ => ?_)
          refine s_if_eqB (tgt := 115) (pc := 99) dX1_readBody_99 (by decide) (fun _ => ?_) (fun _ => ?_)
          · refine s_aload_n (pc := 102) 0 dX1_readBody_102 rfl ?_
            refine s_iload_n (pc := 103) 1 dX1_readBody_103 rfl ?_
            refine s_iconst (v := 2) (pc := 104) dX1_readBody_104 (by decide) ?_
            refine x_callV (M := MX1_readBody) (L := [(1, b0, f0, s0), (8, b1, f1, x7.2.1), (0, b2, f2, x7.2.2)]) (h := h) (j := 0) (As := [.int a0, .int 2]) (st := []) (A := fun (x : Bool × RS × RS) => some (.int (b2i x.1))) (Lc := [(1, b0, f0, s0), (8, b1, f1, x7.2.1), (0, b2, f2, x7.2.2)]) (Lr := fun (x : Bool × RS × RS) => [(1, b0, f0, s0), (8, b1, f1, x.2.1), (0, b2, f2, x.2.2)]) (L2 := fun (x : Bool × RS × RS) => [(1, b0, f0, s0), (8, b1, f1, x.2.1), (0, b2, f2, x.2.2)]) cv_X1_111 (by decide) (pc := 105) dX1_readBody_105 ho rfl xc0_1 rfl rfl (Nat.le_of_ble_eq_true rfl) (xovs (L := [(1, b0, f0, s0), (8, b1, f1, x7.2.1), (0, b2, f2, x7.2.2)]) (h := h) [(0, (1, b0, f0, s0)), (1, (8, b1, f1, x7.2.1)), (2, (0, b2, f2, x7.2.2))] ho ⟨rfl, rfl, rfl, trivial⟩).1 (fun x => (xovs (L := [(1, b0, f0, s0), (8, b1, f1, x7.2.1), (0, b2, f2, x7.2.2)]) (h := h) [(0, (1, b0, f0, s0)), (1, (8, b1, f1, x.2.1)), (2, (0, b2, f2, x.2.2))] ho ⟨rfl, rfl, rfl, trivial⟩).1) (fun x hx => pX1_readNumber_ok (h := xw [(1, b0, f0, s0), (8, b1, f1, x7.2.1), (0, b2, f2, x7.2.2)] h) (f0 := f0) (f1 := f1) (f2 := f2) (xok_sub ho [0, 1, 2] rfl (by decide)) hq_0_0 hq_0_1 s0 x7.2.1 x7.2.2 a0 (2 : Int32) x hx) rfl (fun x8 _ => ?_)
            refine s_if_eqB (tgt := 115) (pc := 108) dX1_readBody_108 (by decide) (fun _ => ?_) (fun _ => ?_)
            · refine s_iconst (v := 1) (pc := 111) dX1_readBody_111 (by decide) ?_
              refine s_goto (tgt := 116) (pc := 112) dX1_readBody_112 (by decide) ?_
              exact s_zretB (b := true) (pc := 116) dX1_readBody_116 rfl (fun _ _ q => q)
            · refine s_iconst (v := 0) (pc := 115) dX1_readBody_115 (by decide) ?_
              exact s_zretB (b := false) (pc := 116) dX1_readBody_116 rfl (fun _ _ q => q)
          · refine s_iconst (v := 0) (pc := 115) dX1_readBody_115 (by decide) ?_
            exact s_zretB (b := false) (pc := 116) dX1_readBody_116 rfl (fun _ _ q => q)
        · refine s_tabOut (tgt := 117) (pc := 1) dX1_readBody_1 (sw_out (fun i h1 h2 => by
            have hi : i = 0 ∨ i = 1 ∨ i = 2 ∨ i = 3 := by omega
            rcases hi with rfl | rfl | rfl | rfl
            · exact fun q => n10 (q.trans (by decide))
            · exact fun q => n11 (q.trans (by decide))
            · exact fun q => n12 (q.trans (by decide))
            · exact fun q => n13 (q.trans (by decide)))) (by decide) ?_
          refine s_aload_n (pc := 117) 0 dX1_readBody_117 rfl ?_
          refine s_iload_n (pc := 118) 1 dX1_readBody_118 rfl ?_
          refine x_callV (M := MX1_readBody) (L := [(1, b0, f0, s0), (8, b1, f1, s1), (0, b2, f2, s2)]) (h := h) (j := 0) (As := [.int a0]) (st := []) (A := fun (x : Bool × RS × RS) => some (.int (b2i x.1))) (Lc := [(1, b0, f0, s0), (8, b1, f1, s1), (0, b2, f2, s2)]) (Lr := fun (x : Bool × RS × RS) => [(1, b0, f0, s0), (8, b1, f1, x.2.1), (0, b2, f2, x.2.2)]) (L2 := fun (x : Bool × RS × RS) => [(1, b0, f0, s0), (8, b1, f1, x.2.1), (0, b2, f2, x.2.2)]) cv_X1_120 (by decide) (pc := 119) dX1_readBody_119 ho rfl xc0_1 rfl rfl (Nat.le_of_ble_eq_true rfl) (xovs (L := [(1, b0, f0, s0), (8, b1, f1, s1), (0, b2, f2, s2)]) (h := h) [(0, (1, b0, f0, s0)), (1, (8, b1, f1, s1)), (2, (0, b2, f2, s2))] ho ⟨rfl, rfl, rfl, trivial⟩).1 (fun x => (xovs (L := [(1, b0, f0, s0), (8, b1, f1, s1), (0, b2, f2, s2)]) (h := h) [(0, (1, b0, f0, s0)), (1, (8, b1, f1, x.2.1)), (2, (0, b2, f2, x.2.2))] ho ⟨rfl, rfl, rfl, trivial⟩).1) (fun x hx => pX1_readSettled_ok (h := xw [(1, b0, f0, s0), (8, b1, f1, s1), (0, b2, f2, s2)] h) (f0 := f0) (f1 := f1) (f2 := f2) (xok_sub ho [0, 1, 2] rfl (by decide)) hq_0_0 hq_0_1 s0 s1 s2 a0 x hx) rfl (fun x9 _ => ?_)
          exact s_zretB (b := x9.1) (pc := 122) dX1_readBody_122 rfl (fun _ _ q => q)
theorem pX1_readBody_ok (ho : xok [(1, b0), (8, b1), (0, b2)] h.2.1) (hq_0_0 : f0 0 = some b1) (hq_0_1 : f0 1 = some b2) (s0 : RS) (s1 : RS) (s2 : RS) (a0 : Int32) (a1 : Int32) : ∀ x, pX1_readBody s0 s1 s2 a0 a1 = some x → aMet l 3 yX1_readBody cX1_readBody 3 (some .boolean) [.ref b0, .int a0, .int a1] (xw [(1, b0, f0, s0), (8, b1, f1, s1), (0, b2, f2, s2)] h) (some (.int (b2i x.1))) (xw [(1, b0, f0, s0), (8, b1, f1, x.2.1), (0, b2, f2, x.2.2)] h) := fun x hx => a_meth (ini := false) (y := yX1_readBody) (by decide +kernel) (fun q => by cases q) (fun _ => Nat.le_of_ble_eq_true rfl) (pX1_readBody_w ho hq_0_0 hq_0_1 s0 s1 s2 a0 a1) x hx _ _ ⟨rfl, rfl⟩
end
section
variable {l : Launch} {n0 S0 : Nat} {h : aH} {b0 b1 b2 : Nat} {f0 f1 f2 : Nat → Option Nat}
abbrev MX1_readChange : aM := (cX1_readChange, RX1, 3, (some .boolean), false)
def pX1_readChange (s0 : RS) (s1 : RS) (s2 : RS) : Option (Bool × RS × RS) :=
  (pX8_kindHere s1).bind fun x1 =>
  (pX1_kindOf x1).bind fun x2 =>
  if x2 = (-1 : Int32) then
    (pX8_blameToken s1).bind fun x16 =>
    some (x16.1, x16.2, s2)
  else
    thn (s2.1 1) fun x3 =>
    if x3 < (16 : Int32) then
      (pX8_advance s1).bind fun x4 =>
      (pX1_isNewName s0 x4 s2).bind fun x5 =>
      if x5.1 = true then
        (pX8_nameHere x5.2).bind fun x6 =>
        g_in x3 16 (thn (uB s2 3 (vp_updL (s2.2.2.2 3) x3.toNatClampNeg x6)) fun s_7 =>
        g_in x3 16 (thn (uA s_7 4 (upd (s_7.2.2.1 4) x3.toNatClampNeg x2)) fun s_8 =>
        g_in x3 16 (thn (uA s_8 5 (upd (s_8.2.2.1 5) x3.toNatClampNeg (-1 : Int32))) fun s_9 =>
        (pX8_advance x5.2).bind fun x10 =>
        (pX1_readBody s0 x10 s_9 x3 x2).bind fun x11 =>
        if x11.1 = true then
          (pX1_readAfter s0 x11.2.1 x11.2.2 x3).bind fun x12 =>
          if x12.1 = true then
            (pX8_pass x12.2.1 (31 : Int32)).bind fun x13 =>
            if x13.1 = true then
              (pX0_addChange x12.2.2).bind fun x14 =>
              some (true, x13.2, x14)
            else
              some (false, x13.2, x12.2.2)
          else
            some (false, x12.2.1, x12.2.2)
        else
          some (false, x11.2.1, x11.2.2))))
      else
        some (false, x5.2, s2)
    else
      (pX8_blame s1 (6 : Int32)).bind fun x15 =>
      some (x15.1, x15.2, s2)
theorem pX1_readChange_w (ho : xok [(1, b0), (8, b1), (0, b2)] h.2.1) (hq_0_0 : f0 0 = some b1) (hq_0_1 : f0 1 = some b2) (s0 : RS) (s1 : RS) (s2 : RS) : aS l 4 MX1_readChange n0 S0 (oΦ (fun (x : Bool × RS × RS) => ((some (.int (b2i x.1))), xw [(1, b0, f0, s0), (8, b1, f1, x.2.1), (0, b2, f2, x.2.2)] h))) 0 [(0, .ref b0)] [] (xw [(1, b0, f0, s0), (8, b1, f1, s1), (0, b2, f2, s2)] h) (pX1_readChange s0 s1 s2) := by
  unfold pX1_readChange
  refine s_aload_n (pc := 0) 0 dX1_readChange_0 rfl ?_
  refine xg_X1_18 0 ho rfl (pc := 1) dX1_readChange_1 rfl hq_0_0 ?_
  refine x_callV (M := MX1_readChange) (L := [(1, b0, f0, s0), (8, b1, f1, s1), (0, b2, f2, s2)]) (h := h) (j := 1) (As := []) (st := []) (A := fun (x : Int32) => some (.int x)) (Lc := [(8, b1, f1, s1)]) (Lr := fun (x : Int32) => [(8, b1, f1, s1)]) (L2 := fun (x : Int32) => [(1, b0, f0, s0), (8, b1, f1, s1), (0, b2, f2, s2)]) cv_X1_32 (by decide) (pc := 4) dX1_readChange_4 ho rfl xc0_8 rfl rfl (Nat.le_of_ble_eq_true rfl) (xovs (L := [(1, b0, f0, s0), (8, b1, f1, s1), (0, b2, f2, s2)]) (h := h) [(1, (8, b1, f1, s1))] ho ⟨rfl, trivial⟩).1 (fun x => (xovs (L := [(1, b0, f0, s0), (8, b1, f1, s1), (0, b2, f2, s2)]) (h := h) [(1, (8, b1, f1, s1))] ho ⟨rfl, trivial⟩).1) (fun x hx => pX8_kindHere_ok (h := xw [(1, b0, f0, s0), (8, b1, f1, s1), (0, b2, f2, s2)] h) (f0 := f1) (xok_sub ho [1] rfl (by decide)) s1 x hx) rfl (fun x1 _ => ?_)
  refine s_callS (M := MX1_readChange) (As := [.int x1]) (st := []) (Ψ := fun (x : Int32) => (some (.int x), xw [(1, b0, f0, s0), (8, b1, f1, s1), (0, b2, f2, s2)] h)) cs_X1_80 (by decide) (pc := 7) dX1_readChange_7 rfl (Nat.le_of_ble_eq_true rfl) (fun x hx => pX1_kindOf_ok x1 x hx) rfl (fun x2 _ => ?_)
  refine s_istore_n (lv' := [(1, .int x2), (0, .ref b0)]) (pc := 10) dX1_readChange_10 (by decide) rfl ?_
  refine s_iload_n (pc := 11) 0 dX1_readChange_11 rfl ?_
  refine s_iconst (v := (-1)) (pc := 12) dX1_readChange_12 (by decide) ?_
  refine s_icmp_ne (tgt := 24) (pc := 13) dX1_readChange_13 (by decide) (fun _ => ?_) (fun _ => ?_)
  · refine s_aload_n (pc := 16) 1 dX1_readChange_16 rfl ?_
    refine xg_X1_18 0 ho rfl (pc := 17) dX1_readChange_17 rfl hq_0_0 ?_
    refine x_callV (M := MX1_readChange) (L := [(1, b0, f0, s0), (8, b1, f1, s1), (0, b2, f2, s2)]) (h := h) (j := 1) (As := []) (st := []) (A := fun (x : Bool × RS) => some (.int (b2i x.1))) (Lc := [(8, b1, f1, s1)]) (Lr := fun (x : Bool × RS) => [(8, b1, f1, x.2)]) (L2 := fun (x : Bool × RS) => [(1, b0, f0, s0), (8, b1, f1, x.2), (0, b2, f2, s2)]) cv_X1_70 (by decide) (pc := 20) dX1_readChange_20 ho rfl xc0_8 rfl rfl (Nat.le_of_ble_eq_true rfl) (xovs (L := [(1, b0, f0, s0), (8, b1, f1, s1), (0, b2, f2, s2)]) (h := h) [(1, (8, b1, f1, s1))] ho ⟨rfl, trivial⟩).1 (fun x => (xovs (L := [(1, b0, f0, s0), (8, b1, f1, s1), (0, b2, f2, s2)]) (h := h) [(1, (8, b1, f1, x.2))] ho ⟨rfl, trivial⟩).1) (fun x hx => pX8_blameToken_ok (h := xw [(1, b0, f0, s0), (8, b1, f1, s1), (0, b2, f2, s2)] h) (f0 := f1) (xok_sub ho [1] rfl (by decide)) s1 x hx) rfl (fun x16 _ => ?_)
    exact s_zretB (b := x16.1) (pc := 23) dX1_readChange_23 rfl (fun _ _ q => q)
  · refine s_aload_n (pc := 24) 1 dX1_readChange_24 rfl ?_
    refine xg_X1_12 0 ho rfl (pc := 25) dX1_readChange_25 rfl hq_0_1 ?_
    refine xg_X1_84 2 ho rfl (pc := 28) dX1_readChange_28 rfl ?_
    refine s_istore_nT (lv' := fun x3 => [(2, .int x3), (1, .int x2), (0, .ref b0)]) (pc := 31) dX1_readChange_31 (by decide) (fun _ => rfl) (fun x3 => ?_)
    refine s_iload_n (pc := 32) 0 dX1_readChange_32 rfl ?_
    refine s_bipush (v := 16) (pc := 33) dX1_readChange_33 (by decide) ?_
    refine s_icmp_lt (tgt := 48) (pc := 35) dX1_readChange_35 (by decide) (fun _ => ?_) (fun _ => ?_)
    · refine s_aload_n (pc := 48) 2 dX1_readChange_48 rfl ?_
      refine xg_X1_18 0 ho rfl (pc := 49) dX1_readChange_49 rfl hq_0_0 ?_
      refine x_callV (M := MX1_readChange) (L := [(1, b0, f0, s0), (8, b1, f1, s1), (0, b2, f2, s2)]) (h := h) (j := 1) (As := []) (st := []) (A := fun (x : RS) => none) (Lc := [(8, b1, f1, s1)]) (Lr := fun (x : RS) => [(8, b1, f1, x)]) (L2 := fun (x : RS) => [(1, b0, f0, s0), (8, b1, f1, x), (0, b2, f2, s2)]) cv_X1_50 (by decide) (pc := 52) dX1_readChange_52 ho rfl xc0_8 rfl rfl (Nat.le_of_ble_eq_true rfl) (xovs (L := [(1, b0, f0, s0), (8, b1, f1, s1), (0, b2, f2, s2)]) (h := h) [(1, (8, b1, f1, s1))] ho ⟨rfl, trivial⟩).1 (fun x => (xovs (L := [(1, b0, f0, s0), (8, b1, f1, s1), (0, b2, f2, s2)]) (h := h) [(1, (8, b1, f1, x))] ho ⟨rfl, trivial⟩).1) (fun x hx => pX8_advance_ok (h := xw [(1, b0, f0, s0), (8, b1, f1, s1), (0, b2, f2, s2)] h) (f0 := f1) (xok_sub ho [1] rfl (by decide)) s1 x hx) rfl (fun x4 _ => ?_)
      refine s_aload_n (pc := 55) 2 dX1_readChange_55 rfl ?_
      refine x_callV (M := MX1_readChange) (L := [(1, b0, f0, s0), (8, b1, f1, x4), (0, b2, f2, s2)]) (h := h) (j := 0) (As := []) (st := []) (A := fun (x : Bool × RS) => some (.int (b2i x.1))) (Lc := [(1, b0, f0, s0), (8, b1, f1, x4), (0, b2, f2, s2)]) (Lr := fun (x : Bool × RS) => [(1, b0, f0, s0), (8, b1, f1, x.2), (0, b2, f2, s2)]) (L2 := fun (x : Bool × RS) => [(1, b0, f0, s0), (8, b1, f1, x.2), (0, b2, f2, s2)]) cv_X1_53 (by decide) (pc := 56) dX1_readChange_56 ho rfl xc0_1 rfl rfl (Nat.le_of_ble_eq_true rfl) (xovs (L := [(1, b0, f0, s0), (8, b1, f1, x4), (0, b2, f2, s2)]) (h := h) [(0, (1, b0, f0, s0)), (1, (8, b1, f1, x4)), (2, (0, b2, f2, s2))] ho ⟨rfl, rfl, rfl, trivial⟩).1 (fun x => (xovs (L := [(1, b0, f0, s0), (8, b1, f1, x4), (0, b2, f2, s2)]) (h := h) [(0, (1, b0, f0, s0)), (1, (8, b1, f1, x.2)), (2, (0, b2, f2, s2))] ho ⟨rfl, rfl, rfl, trivial⟩).1) (fun x hx => pX1_isNewName_ok (h := xw [(1, b0, f0, s0), (8, b1, f1, x4), (0, b2, f2, s2)] h) (f0 := f0) (f1 := f1) (f2 := f2) (xok_sub ho [0, 1, 2] rfl (by decide)) hq_0_0 hq_0_1 s0 x4 s2 x hx) rfl (fun x5 _ => ?_)
      refine s_if_neB (tgt := 64) (pc := 59) dX1_readChange_59 (by decide) (fun _ => ?_) (fun _ => ?_)
      · refine s_aload_n (pc := 64) 2 dX1_readChange_64 rfl ?_
        refine xg_X1_12 0 ho rfl (pc := 65) dX1_readChange_65 rfl hq_0_1 ?_
        refine xg_X1_87 2 ho rfl (pc := 68) dX1_readChange_68 rfl ?_
        refine s_iload_n (pc := 71) 0 dX1_readChange_71 rfl ?_
        refine s_aload_n (pc := 72) 2 dX1_readChange_72 rfl ?_
        refine xg_X1_18 0 ho rfl (pc := 73) dX1_readChange_73 rfl hq_0_0 ?_
        refine x_callV (M := MX1_readChange) (L := [(1, b0, f0, s0), (8, b1, f1, x5.2), (0, b2, f2, s2)]) (h := h) (j := 1) (As := []) (st := [.int x3, .ref (b2 + 2)]) (A := fun (x : Int64) => some (.long x)) (Lc := [(8, b1, f1, x5.2)]) (Lr := fun (x : Int64) => [(8, b1, f1, x5.2)]) (L2 := fun (x : Int64) => [(1, b0, f0, s0), (8, b1, f1, x5.2), (0, b2, f2, s2)]) cv_X1_56 (by decide) (pc := 76) dX1_readChange_76 ho rfl xc0_8 rfl rfl (Nat.le_of_ble_eq_true rfl) (xovs (L := [(1, b0, f0, s0), (8, b1, f1, x5.2), (0, b2, f2, s2)]) (h := h) [(1, (8, b1, f1, x5.2))] ho ⟨rfl, trivial⟩).1 (fun x => (xovs (L := [(1, b0, f0, s0), (8, b1, f1, x5.2), (0, b2, f2, s2)]) (h := h) [(1, (8, b1, f1, x5.2))] ho ⟨rfl, trivial⟩).1) (fun x hx => pX8_nameHere_ok (h := xw [(1, b0, f0, s0), (8, b1, f1, x5.2), (0, b2, f2, s2)] h) (f0 := f1) (xok_sub ho [1] rfl (by decide)) x5.2 x hx) rfl (fun x6 _ => ?_)
        refine xs_0_3 (L' := fun s_7 => [(1, b0, f0, s0), (8, b1, f1, x5.2), (0, b2, f2, s_7)]) 2 ho rfl (fun _ => rfl) (pc := 79) dX1_readChange_79 (fun s_7 => ?_)
        refine s_aload_n (pc := 80) 2 dX1_readChange_80 rfl ?_
        refine xg_X1_12 0 ho rfl (pc := 81) dX1_readChange_81 rfl hq_0_1 ?_
        refine xg_X1_91 2 ho rfl (pc := 84) dX1_readChange_84 rfl ?_
        refine s_iload_n (pc := 87) 0 dX1_readChange_87 rfl ?_
        refine s_iload_n (pc := 88) 1 dX1_readChange_88 rfl ?_
        refine xs_0_4 (L' := fun s_8 => [(1, b0, f0, s0), (8, b1, f1, x5.2), (0, b2, f2, s_8)]) 2 ho rfl (fun _ => rfl) (pc := 89) dX1_readChange_89 (fun s_8 => ?_)
        refine s_aload_n (pc := 90) 2 dX1_readChange_90 rfl ?_
        refine xg_X1_12 0 ho rfl (pc := 91) dX1_readChange_91 rfl hq_0_1 ?_
        refine xg_X1_95 2 ho rfl (pc := 94) dX1_readChange_94 rfl ?_
        refine s_iload_n (pc := 97) 0 dX1_readChange_97 rfl ?_
        refine s_iconst (v := (-1)) (pc := 98) dX1_readChange_98 (by decide) ?_
        refine xs_0_5 (L' := fun s_9 => [(1, b0, f0, s0), (8, b1, f1, x5.2), (0, b2, f2, s_9)]) 2 ho rfl (fun _ => rfl) (pc := 99) dX1_readChange_99 (fun s_9 => ?_)
        refine s_aload_n (pc := 100) 2 dX1_readChange_100 rfl ?_
        refine xg_X1_18 0 ho rfl (pc := 101) dX1_readChange_101 rfl hq_0_0 ?_
        refine x_callV (M := MX1_readChange) (L := [(1, b0, f0, s0), (8, b1, f1, x5.2), (0, b2, f2, s_9)]) (h := h) (j := 1) (As := []) (st := []) (A := fun (x : RS) => none) (Lc := [(8, b1, f1, x5.2)]) (Lr := fun (x : RS) => [(8, b1, f1, x)]) (L2 := fun (x : RS) => [(1, b0, f0, s0), (8, b1, f1, x), (0, b2, f2, s_9)]) cv_X1_50 (by decide) (pc := 104) dX1_readChange_104 ho rfl xc0_8 rfl rfl (Nat.le_of_ble_eq_true rfl) (xovs (L := [(1, b0, f0, s0), (8, b1, f1, x5.2), (0, b2, f2, s_9)]) (h := h) [(1, (8, b1, f1, x5.2))] ho ⟨rfl, trivial⟩).1 (fun x => (xovs (L := [(1, b0, f0, s0), (8, b1, f1, x5.2), (0, b2, f2, s_9)]) (h := h) [(1, (8, b1, f1, x))] ho ⟨rfl, trivial⟩).1) (fun x hx => pX8_advance_ok (h := xw [(1, b0, f0, s0), (8, b1, f1, x5.2), (0, b2, f2, s_9)] h) (f0 := f1) (xok_sub ho [1] rfl (by decide)) x5.2 x hx) rfl (fun x10 _ => ?_)
        refine s_aload_n (pc := 107) 2 dX1_readChange_107 rfl ?_
        refine s_iload_n (pc := 108) 0 dX1_readChange_108 rfl ?_
        refine s_iload_n (pc := 109) 1 dX1_readChange_109 rfl ?_
        refine x_callV (M := MX1_readChange) (L := [(1, b0, f0, s0), (8, b1, f1, x10), (0, b2, f2, s_9)]) (h := h) (j := 0) (As := [.int x3, .int x2]) (st := []) (A := fun (x : Bool × RS × RS) => some (.int (b2i x.1))) (Lc := [(1, b0, f0, s0), (8, b1, f1, x10), (0, b2, f2, s_9)]) (Lr := fun (x : Bool × RS × RS) => [(1, b0, f0, s0), (8, b1, f1, x.2.1), (0, b2, f2, x.2.2)]) (L2 := fun (x : Bool × RS × RS) => [(1, b0, f0, s0), (8, b1, f1, x.2.1), (0, b2, f2, x.2.2)]) cv_X1_98 (by decide) (pc := 110) dX1_readChange_110 ho rfl xc0_1 rfl rfl (Nat.le_of_ble_eq_true rfl) (xovs (L := [(1, b0, f0, s0), (8, b1, f1, x10), (0, b2, f2, s_9)]) (h := h) [(0, (1, b0, f0, s0)), (1, (8, b1, f1, x10)), (2, (0, b2, f2, s_9))] ho ⟨rfl, rfl, rfl, trivial⟩).1 (fun x => (xovs (L := [(1, b0, f0, s0), (8, b1, f1, x10), (0, b2, f2, s_9)]) (h := h) [(0, (1, b0, f0, s0)), (1, (8, b1, f1, x.2.1)), (2, (0, b2, f2, x.2.2))] ho ⟨rfl, rfl, rfl, trivial⟩).1) (fun x hx => pX1_readBody_ok (h := xw [(1, b0, f0, s0), (8, b1, f1, x10), (0, b2, f2, s_9)] h) (f0 := f0) (f1 := f1) (f2 := f2) (xok_sub ho [0, 1, 2] rfl (by decide)) hq_0_0 hq_0_1 s0 x10 s_9 x3 x2 x hx) rfl (fun x11 _ => ?_)
        refine s_if_eqB (tgt := 136) (pc := 113) dX1_readChange_113 (by decide) (fun _ => ?_) (fun _ => ?_)
        · refine s_aload_n (pc := 116) 2 dX1_readChange_116 rfl ?_
          refine s_iload_n (pc := 117) 0 dX1_readChange_117 rfl ?_
          refine x_callV (M := MX1_readChange) (L := [(1, b0, f0, s0), (8, b1, f1, x11.2.1), (0, b2, f2, x11.2.2)]) (h := h) (j := 0) (As := [.int x3]) (st := []) (A := fun (x : Bool × RS × RS) => some (.int (b2i x.1))) (Lc := [(1, b0, f0, s0), (8, b1, f1, x11.2.1), (0, b2, f2, x11.2.2)]) (Lr := fun (x : Bool × RS × RS) => [(1, b0, f0, s0), (8, b1, f1, x.2.1), (0, b2, f2, x.2.2)]) (L2 := fun (x : Bool × RS × RS) => [(1, b0, f0, s0), (8, b1, f1, x.2.1), (0, b2, f2, x.2.2)]) cv_X1_102 (by decide) (pc := 118) dX1_readChange_118 ho rfl xc0_1 rfl rfl (Nat.le_of_ble_eq_true rfl) (xovs (L := [(1, b0, f0, s0), (8, b1, f1, x11.2.1), (0, b2, f2, x11.2.2)]) (h := h) [(0, (1, b0, f0, s0)), (1, (8, b1, f1, x11.2.1)), (2, (0, b2, f2, x11.2.2))] ho ⟨rfl, rfl, rfl, trivial⟩).1 (fun x => (xovs (L := [(1, b0, f0, s0), (8, b1, f1, x11.2.1), (0, b2, f2, x11.2.2)]) (h := h) [(0, (1, b0, f0, s0)), (1, (8, b1, f1, x.2.1)), (2, (0, b2, f2, x.2.2))] ho ⟨rfl, rfl, rfl, trivial⟩).1) (fun x hx => pX1_readAfter_ok (h := xw [(1, b0, f0, s0), (8, b1, f1, x11.2.1), (0, b2, f2, x11.2.2)] h) (f0 := f0) (f1 := f1) (f2 := f2) (xok_sub ho [0, 1, 2] rfl (by decide)) hq_0_0 hq_0_1 s0 x11.2.1 x11.2.2 x3 x hx) rfl (fun x12 _ => ?_)
          refine s_if_eqB (tgt := 136) (pc := 121) dX1_readChange_121 (by decide) (fun _ => ?_) (fun _ => ?_)
          · refine s_aload_n (pc := 124) 2 dX1_readChange_124 rfl ?_
            refine xg_X1_18 0 ho rfl (pc := 125) dX1_readChange_125 rfl hq_0_0 ?_
            refine s_bipush (v := 31) (pc := 128) dX1_readChange_128 (by decide) ?_
            refine x_callV (M := MX1_readChange) (L := [(1, b0, f0, s0), (8, b1, f1, x12.2.1), (0, b2, f2, x12.2.2)]) (h := h) (j := 1) (As := [.int 31]) (st := []) (A := fun (x : Bool × RS) => some (.int (b2i x.1))) (Lc := [(8, b1, f1, x12.2.1)]) (Lr := fun (x : Bool × RS) => [(8, b1, f1, x.2)]) (L2 := fun (x : Bool × RS) => [(1, b0, f0, s0), (8, b1, f1, x.2), (0, b2, f2, x12.2.2)]) cv_X1_64 (by decide) (pc := 130) dX1_readChange_130 ho rfl xc0_8 rfl rfl (Nat.le_of_ble_eq_true rfl) (xovs (L := [(1, b0, f0, s0), (8, b1, f1, x12.2.1), (0, b2, f2, x12.2.2)]) (h := h) [(1, (8, b1, f1, x12.2.1))] ho ⟨rfl, trivial⟩).1 (fun x => (xovs (L := [(1, b0, f0, s0), (8, b1, f1, x12.2.1), (0, b2, f2, x12.2.2)]) (h := h) [(1, (8, b1, f1, x.2))] ho ⟨rfl, trivial⟩).1) (fun x hx => pX8_pass_ok (h := xw [(1, b0, f0, s0), (8, b1, f1, x12.2.1), (0, b2, f2, x12.2.2)] h) (f0 := f1) (xok_sub ho [1] rfl (by decide)) x12.2.1 (31 : Int32) x hx) rfl (fun x13 _ => ?_)
            refine s_if_neB (tgt := 138) (pc := 133) dX1_readChange_133 (by decide) (fun _ => ?_) (fun _ => ?_)
            · refine s_aload_n (pc := 138) 2 dX1_readChange_138 rfl ?_
              refine xg_X1_12 0 ho rfl (pc := 139) dX1_readChange_139 rfl hq_0_1 ?_
              refine x_callV (M := MX1_readChange) (L := [(1, b0, f0, s0), (8, b1, f1, x13.2), (0, b2, f2, x12.2.2)]) (h := h) (j := 2) (As := []) (st := []) (A := fun (x : RS) => none) (Lc := [(0, b2, f2, x12.2.2)]) (Lr := fun (x : RS) => [(0, b2, f2, x)]) (L2 := fun (x : RS) => [(1, b0, f0, s0), (8, b1, f1, x13.2), (0, b2, f2, x)]) cv_X1_105 (by decide) (pc := 142) dX1_readChange_142 ho rfl xc0_0 rfl rfl (Nat.le_of_ble_eq_true rfl) (xovs (L := [(1, b0, f0, s0), (8, b1, f1, x13.2), (0, b2, f2, x12.2.2)]) (h := h) [(2, (0, b2, f2, x12.2.2))] ho ⟨rfl, trivial⟩).1 (fun x => (xovs (L := [(1, b0, f0, s0), (8, b1, f1, x13.2), (0, b2, f2, x12.2.2)]) (h := h) [(2, (0, b2, f2, x))] ho ⟨rfl, trivial⟩).1) (fun x hx => pX0_addChange_ok (h := xw [(1, b0, f0, s0), (8, b1, f1, x13.2), (0, b2, f2, x12.2.2)] h) (f0 := f2) (xok_sub ho [2] rfl (by decide)) x12.2.2 x hx) rfl (fun x14 _ => ?_)
              refine s_iconst (v := 1) (pc := 145) dX1_readChange_145 (by decide) ?_
              exact s_zretB (b := true) (pc := 146) dX1_readChange_146 rfl (fun _ _ q => q)
            · refine s_iconst (v := 0) (pc := 136) dX1_readChange_136 (by decide) ?_
              exact s_zretB (b := false) (pc := 137) dX1_readChange_137 rfl (fun _ _ q => q)
          · refine s_iconst (v := 0) (pc := 136) dX1_readChange_136 (by decide) ?_
            exact s_zretB (b := false) (pc := 137) dX1_readChange_137 rfl (fun _ _ q => q)
        · refine s_iconst (v := 0) (pc := 136) dX1_readChange_136 (by decide) ?_
          exact s_zretB (b := false) (pc := 137) dX1_readChange_137 rfl (fun _ _ q => q)
      · refine s_iconst (v := 0) (pc := 62) dX1_readChange_62 (by decide) ?_
        exact s_zretB (b := false) (pc := 63) dX1_readChange_63 rfl (fun _ _ q => q)
    · refine s_aload_n (pc := 38) 2 dX1_readChange_38 rfl ?_
      refine xg_X1_18 0 ho rfl (pc := 39) dX1_readChange_39 rfl hq_0_0 ?_
      refine s_bipush (v := 6) (pc := 42) dX1_readChange_42 (by decide) ?_
      refine x_callV (M := MX1_readChange) (L := [(1, b0, f0, s0), (8, b1, f1, s1), (0, b2, f2, s2)]) (h := h) (j := 1) (As := [.int 6]) (st := []) (A := fun (x : Bool × RS) => some (.int (b2i x.1))) (Lc := [(8, b1, f1, s1)]) (Lr := fun (x : Bool × RS) => [(8, b1, f1, x.2)]) (L2 := fun (x : Bool × RS) => [(1, b0, f0, s0), (8, b1, f1, x.2), (0, b2, f2, s2)]) cv_X1_46 (by decide) (pc := 44) dX1_readChange_44 ho rfl xc0_8 rfl rfl (Nat.le_of_ble_eq_true rfl) (xovs (L := [(1, b0, f0, s0), (8, b1, f1, s1), (0, b2, f2, s2)]) (h := h) [(1, (8, b1, f1, s1))] ho ⟨rfl, trivial⟩).1 (fun x => (xovs (L := [(1, b0, f0, s0), (8, b1, f1, s1), (0, b2, f2, s2)]) (h := h) [(1, (8, b1, f1, x.2))] ho ⟨rfl, trivial⟩).1) (fun x hx => pX8_blame_ok (h := xw [(1, b0, f0, s0), (8, b1, f1, s1), (0, b2, f2, s2)] h) (f0 := f1) (xok_sub ho [1] rfl (by decide)) s1 (6 : Int32) x hx) rfl (fun x15 _ => ?_)
      exact s_zretB (b := x15.1) (pc := 47) dX1_readChange_47 rfl (fun _ _ q => q)
theorem pX1_readChange_ok (ho : xok [(1, b0), (8, b1), (0, b2)] h.2.1) (hq_0_0 : f0 0 = some b1) (hq_0_1 : f0 1 = some b2) (s0 : RS) (s1 : RS) (s2 : RS) : ∀ x, pX1_readChange s0 s1 s2 = some x → aMet l 4 yX1_readChange cX1_readChange 3 (some .boolean) [.ref b0] (xw [(1, b0, f0, s0), (8, b1, f1, s1), (0, b2, f2, s2)] h) (some (.int (b2i x.1))) (xw [(1, b0, f0, s0), (8, b1, f1, x.2.1), (0, b2, f2, x.2.2)] h) := fun x hx => a_meth (ini := false) (y := yX1_readChange) (by decide +kernel) (fun q => by cases q) (fun _ => Nat.le_of_ble_eq_true rfl) (pX1_readChange_w ho hq_0_0 hq_0_1 s0 s1 s2) x hx _ _ ⟨rfl, rfl⟩
end
section
variable {l : Launch} {n0 S0 : Nat} {h : aH} {b0 b1 b2 : Nat} {f0 f1 f2 : Nat → Option Nat}
abbrev MX1_readIsland : aM := (cX1_readIsland, RX1, 1, (some .boolean), false)
def pX1_readIsland (s0 : RS) (s1 : RS) (s2 : RS) : Option (Bool × RS × RS) :=
  if (s2.1 0) < (4 : Int32) then
    (pX8_advance s1).bind fun x1 =>
    (pX1_isNewName s0 x1 s2).bind fun x2 =>
    if x2.1 = true then
      (pX8_nameHere x2.2).bind fun x3 =>
      (pX0_addIsland s2 x3).bind fun x4 =>
      (pX8_advance x2.2).bind fun x5 =>
      (pX8_pass x5 (31 : Int32)).bind fun x6 =>
      some (x6.1, x6.2, x4)
    else
      some (false, x2.2, s2)
  else
    (pX8_blame s1 (6 : Int32)).bind fun x7 =>
    some (x7.1, x7.2, s2)
theorem pX1_readIsland_w (ho : xok [(1, b0), (8, b1), (0, b2)] h.2.1) (hq_0_0 : f0 0 = some b1) (hq_0_1 : f0 1 = some b2) (s0 : RS) (s1 : RS) (s2 : RS) : aS l 2 MX1_readIsland n0 S0 (oΦ (fun (x : Bool × RS × RS) => ((some (.int (b2i x.1))), xw [(1, b0, f0, s0), (8, b1, f1, x.2.1), (0, b2, f2, x.2.2)] h))) 0 [(0, .ref b0)] [] (xw [(1, b0, f0, s0), (8, b1, f1, s1), (0, b2, f2, s2)] h) (pX1_readIsland s0 s1 s2) := by
  unfold pX1_readIsland
  refine s_aload_n (pc := 0) 0 dX1_readIsland_0 rfl ?_
  refine xg_X1_12 0 ho rfl (pc := 1) dX1_readIsland_1 rfl hq_0_1 ?_
  refine xg_X1_42 2 ho rfl (pc := 4) dX1_readIsland_4 rfl ?_
  refine s_iconst (v := 4) (pc := 7) dX1_readIsland_7 (by decide) ?_
  refine s_icmp_lt (tgt := 21) (pc := 8) dX1_readIsland_8 (by decide) (fun _ => ?_) (fun _ => ?_)
  · refine s_aload_n (pc := 21) 0 dX1_readIsland_21 rfl ?_
    refine xg_X1_18 0 ho rfl (pc := 22) dX1_readIsland_22 rfl hq_0_0 ?_
    refine x_callV (M := MX1_readIsland) (L := [(1, b0, f0, s0), (8, b1, f1, s1), (0, b2, f2, s2)]) (h := h) (j := 1) (As := []) (st := []) (A := fun (x : RS) => none) (Lc := [(8, b1, f1, s1)]) (Lr := fun (x : RS) => [(8, b1, f1, x)]) (L2 := fun (x : RS) => [(1, b0, f0, s0), (8, b1, f1, x), (0, b2, f2, s2)]) cv_X1_50 (by decide) (pc := 25) dX1_readIsland_25 ho rfl xc0_8 rfl rfl (Nat.le_of_ble_eq_true rfl) (xovs (L := [(1, b0, f0, s0), (8, b1, f1, s1), (0, b2, f2, s2)]) (h := h) [(1, (8, b1, f1, s1))] ho ⟨rfl, trivial⟩).1 (fun x => (xovs (L := [(1, b0, f0, s0), (8, b1, f1, s1), (0, b2, f2, s2)]) (h := h) [(1, (8, b1, f1, x))] ho ⟨rfl, trivial⟩).1) (fun x hx => pX8_advance_ok (h := xw [(1, b0, f0, s0), (8, b1, f1, s1), (0, b2, f2, s2)] h) (f0 := f1) (xok_sub ho [1] rfl (by decide)) s1 x hx) rfl (fun x1 _ => ?_)
    refine s_aload_n (pc := 28) 0 dX1_readIsland_28 rfl ?_
    refine x_callV (M := MX1_readIsland) (L := [(1, b0, f0, s0), (8, b1, f1, x1), (0, b2, f2, s2)]) (h := h) (j := 0) (As := []) (st := []) (A := fun (x : Bool × RS) => some (.int (b2i x.1))) (Lc := [(1, b0, f0, s0), (8, b1, f1, x1), (0, b2, f2, s2)]) (Lr := fun (x : Bool × RS) => [(1, b0, f0, s0), (8, b1, f1, x.2), (0, b2, f2, s2)]) (L2 := fun (x : Bool × RS) => [(1, b0, f0, s0), (8, b1, f1, x.2), (0, b2, f2, s2)]) cv_X1_53 (by decide) (pc := 29) dX1_readIsland_29 ho rfl xc0_1 rfl rfl (Nat.le_of_ble_eq_true rfl) (xovs (L := [(1, b0, f0, s0), (8, b1, f1, x1), (0, b2, f2, s2)]) (h := h) [(0, (1, b0, f0, s0)), (1, (8, b1, f1, x1)), (2, (0, b2, f2, s2))] ho ⟨rfl, rfl, rfl, trivial⟩).1 (fun x => (xovs (L := [(1, b0, f0, s0), (8, b1, f1, x1), (0, b2, f2, s2)]) (h := h) [(0, (1, b0, f0, s0)), (1, (8, b1, f1, x.2)), (2, (0, b2, f2, s2))] ho ⟨rfl, rfl, rfl, trivial⟩).1) (fun x hx => pX1_isNewName_ok (h := xw [(1, b0, f0, s0), (8, b1, f1, x1), (0, b2, f2, s2)] h) (f0 := f0) (f1 := f1) (f2 := f2) (xok_sub ho [0, 1, 2] rfl (by decide)) hq_0_0 hq_0_1 s0 x1 s2 x hx) rfl (fun x2 _ => ?_)
    refine s_if_neB (tgt := 37) (pc := 32) dX1_readIsland_32 (by decide) (fun _ => ?_) (fun _ => ?_)
    · refine s_aload_n (pc := 37) 0 dX1_readIsland_37 rfl ?_
      refine xg_X1_12 0 ho rfl (pc := 38) dX1_readIsland_38 rfl hq_0_1 ?_
      refine s_aload_n (pc := 41) 0 dX1_readIsland_41 rfl ?_
      refine xg_X1_18 0 ho rfl (pc := 42) dX1_readIsland_42 rfl hq_0_0 ?_
      refine x_callV (M := MX1_readIsland) (L := [(1, b0, f0, s0), (8, b1, f1, x2.2), (0, b2, f2, s2)]) (h := h) (j := 1) (As := []) (st := [.ref b2]) (A := fun (x : Int64) => some (.long x)) (Lc := [(8, b1, f1, x2.2)]) (Lr := fun (x : Int64) => [(8, b1, f1, x2.2)]) (L2 := fun (x : Int64) => [(1, b0, f0, s0), (8, b1, f1, x2.2), (0, b2, f2, s2)]) cv_X1_56 (by decide) (pc := 45) dX1_readIsland_45 ho rfl xc0_8 rfl rfl (Nat.le_of_ble_eq_true rfl) (xovs (L := [(1, b0, f0, s0), (8, b1, f1, x2.2), (0, b2, f2, s2)]) (h := h) [(1, (8, b1, f1, x2.2))] ho ⟨rfl, trivial⟩).1 (fun x => (xovs (L := [(1, b0, f0, s0), (8, b1, f1, x2.2), (0, b2, f2, s2)]) (h := h) [(1, (8, b1, f1, x2.2))] ho ⟨rfl, trivial⟩).1) (fun x hx => pX8_nameHere_ok (h := xw [(1, b0, f0, s0), (8, b1, f1, x2.2), (0, b2, f2, s2)] h) (f0 := f1) (xok_sub ho [1] rfl (by decide)) x2.2 x hx) rfl (fun x3 _ => ?_)
      refine x_callV (M := MX1_readIsland) (L := [(1, b0, f0, s0), (8, b1, f1, x2.2), (0, b2, f2, s2)]) (h := h) (j := 2) (As := [.long x3]) (st := []) (A := fun (x : RS) => none) (Lc := [(0, b2, f2, s2)]) (Lr := fun (x : RS) => [(0, b2, f2, x)]) (L2 := fun (x : RS) => [(1, b0, f0, s0), (8, b1, f1, x2.2), (0, b2, f2, x)]) cv_X1_60 (by decide) (pc := 48) dX1_readIsland_48 ho rfl xc0_0 rfl rfl (Nat.le_of_ble_eq_true rfl) (xovs (L := [(1, b0, f0, s0), (8, b1, f1, x2.2), (0, b2, f2, s2)]) (h := h) [(2, (0, b2, f2, s2))] ho ⟨rfl, trivial⟩).1 (fun x => (xovs (L := [(1, b0, f0, s0), (8, b1, f1, x2.2), (0, b2, f2, s2)]) (h := h) [(2, (0, b2, f2, x))] ho ⟨rfl, trivial⟩).1) (fun x hx => pX0_addIsland_ok (h := xw [(1, b0, f0, s0), (8, b1, f1, x2.2), (0, b2, f2, s2)] h) (f0 := f2) (xok_sub ho [2] rfl (by decide)) s2 x3 x hx) rfl (fun x4 _ => ?_)
      refine s_aload_n (pc := 51) 0 dX1_readIsland_51 rfl ?_
      refine xg_X1_18 0 ho rfl (pc := 52) dX1_readIsland_52 rfl hq_0_0 ?_
      refine x_callV (M := MX1_readIsland) (L := [(1, b0, f0, s0), (8, b1, f1, x2.2), (0, b2, f2, x4)]) (h := h) (j := 1) (As := []) (st := []) (A := fun (x : RS) => none) (Lc := [(8, b1, f1, x2.2)]) (Lr := fun (x : RS) => [(8, b1, f1, x)]) (L2 := fun (x : RS) => [(1, b0, f0, s0), (8, b1, f1, x), (0, b2, f2, x4)]) cv_X1_50 (by decide) (pc := 55) dX1_readIsland_55 ho rfl xc0_8 rfl rfl (Nat.le_of_ble_eq_true rfl) (xovs (L := [(1, b0, f0, s0), (8, b1, f1, x2.2), (0, b2, f2, x4)]) (h := h) [(1, (8, b1, f1, x2.2))] ho ⟨rfl, trivial⟩).1 (fun x => (xovs (L := [(1, b0, f0, s0), (8, b1, f1, x2.2), (0, b2, f2, x4)]) (h := h) [(1, (8, b1, f1, x))] ho ⟨rfl, trivial⟩).1) (fun x hx => pX8_advance_ok (h := xw [(1, b0, f0, s0), (8, b1, f1, x2.2), (0, b2, f2, x4)] h) (f0 := f1) (xok_sub ho [1] rfl (by decide)) x2.2 x hx) rfl (fun x5 _ => ?_)
      refine s_aload_n (pc := 58) 0 dX1_readIsland_58 rfl ?_
      refine xg_X1_18 0 ho rfl (pc := 59) dX1_readIsland_59 rfl hq_0_0 ?_
      refine s_bipush (v := 31) (pc := 62) dX1_readIsland_62 (by decide) ?_
      refine x_callV (M := MX1_readIsland) (L := [(1, b0, f0, s0), (8, b1, f1, x5), (0, b2, f2, x4)]) (h := h) (j := 1) (As := [.int 31]) (st := []) (A := fun (x : Bool × RS) => some (.int (b2i x.1))) (Lc := [(8, b1, f1, x5)]) (Lr := fun (x : Bool × RS) => [(8, b1, f1, x.2)]) (L2 := fun (x : Bool × RS) => [(1, b0, f0, s0), (8, b1, f1, x.2), (0, b2, f2, x4)]) cv_X1_64 (by decide) (pc := 64) dX1_readIsland_64 ho rfl xc0_8 rfl rfl (Nat.le_of_ble_eq_true rfl) (xovs (L := [(1, b0, f0, s0), (8, b1, f1, x5), (0, b2, f2, x4)]) (h := h) [(1, (8, b1, f1, x5))] ho ⟨rfl, trivial⟩).1 (fun x => (xovs (L := [(1, b0, f0, s0), (8, b1, f1, x5), (0, b2, f2, x4)]) (h := h) [(1, (8, b1, f1, x.2))] ho ⟨rfl, trivial⟩).1) (fun x hx => pX8_pass_ok (h := xw [(1, b0, f0, s0), (8, b1, f1, x5), (0, b2, f2, x4)] h) (f0 := f1) (xok_sub ho [1] rfl (by decide)) x5 (31 : Int32) x hx) rfl (fun x6 _ => ?_)
      exact s_zretB (b := x6.1) (pc := 67) dX1_readIsland_67 rfl (fun _ _ q => q)
    · refine s_iconst (v := 0) (pc := 35) dX1_readIsland_35 (by decide) ?_
      exact s_zretB (b := false) (pc := 36) dX1_readIsland_36 rfl (fun _ _ q => q)
  · refine s_aload_n (pc := 11) 0 dX1_readIsland_11 rfl ?_
    refine xg_X1_18 0 ho rfl (pc := 12) dX1_readIsland_12 rfl hq_0_0 ?_
    refine s_bipush (v := 6) (pc := 15) dX1_readIsland_15 (by decide) ?_
    refine x_callV (M := MX1_readIsland) (L := [(1, b0, f0, s0), (8, b1, f1, s1), (0, b2, f2, s2)]) (h := h) (j := 1) (As := [.int 6]) (st := []) (A := fun (x : Bool × RS) => some (.int (b2i x.1))) (Lc := [(8, b1, f1, s1)]) (Lr := fun (x : Bool × RS) => [(8, b1, f1, x.2)]) (L2 := fun (x : Bool × RS) => [(1, b0, f0, s0), (8, b1, f1, x.2), (0, b2, f2, s2)]) cv_X1_46 (by decide) (pc := 17) dX1_readIsland_17 ho rfl xc0_8 rfl rfl (Nat.le_of_ble_eq_true rfl) (xovs (L := [(1, b0, f0, s0), (8, b1, f1, s1), (0, b2, f2, s2)]) (h := h) [(1, (8, b1, f1, s1))] ho ⟨rfl, trivial⟩).1 (fun x => (xovs (L := [(1, b0, f0, s0), (8, b1, f1, s1), (0, b2, f2, s2)]) (h := h) [(1, (8, b1, f1, x.2))] ho ⟨rfl, trivial⟩).1) (fun x hx => pX8_blame_ok (h := xw [(1, b0, f0, s0), (8, b1, f1, s1), (0, b2, f2, s2)] h) (f0 := f1) (xok_sub ho [1] rfl (by decide)) s1 (6 : Int32) x hx) rfl (fun x7 _ => ?_)
    exact s_zretB (b := x7.1) (pc := 20) dX1_readIsland_20 rfl (fun _ _ q => q)
theorem pX1_readIsland_ok (ho : xok [(1, b0), (8, b1), (0, b2)] h.2.1) (hq_0_0 : f0 0 = some b1) (hq_0_1 : f0 1 = some b2) (s0 : RS) (s1 : RS) (s2 : RS) : ∀ x, pX1_readIsland s0 s1 s2 = some x → aMet l 2 yX1_readIsland cX1_readIsland 1 (some .boolean) [.ref b0] (xw [(1, b0, f0, s0), (8, b1, f1, s1), (0, b2, f2, s2)] h) (some (.int (b2i x.1))) (xw [(1, b0, f0, s0), (8, b1, f1, x.2.1), (0, b2, f2, x.2.2)] h) := fun x hx => a_meth (ini := false) (y := yX1_readIsland) (by decide +kernel) (fun q => by cases q) (fun _ => Nat.le_of_ble_eq_true rfl) (pX1_readIsland_w ho hq_0_0 hq_0_1 s0 s1 s2) x hx _ _ ⟨rfl, rfl⟩
end
section
variable {l : Launch} {n0 S0 : Nat} {h : aH} {b0 b1 b2 : Nat} {f0 f1 f2 : Nat → Option Nat}
abbrev MX1_readBook : aM := (cX1_readBook, RX1, 4, (some (.object "SwapBook$Book")), false)
def X1_readBook_x12 (l : Launch) (n0 S0 : Nat) (h : aH) (b0 : Nat) (b1 : Nat) (b2 : Nat) (f0 : Nat → Option Nat) (f1 : Nat → Option Nat) (f2 : Nat → Option Nat) (s0 : RS) : (RS × RS) → Option Value → aH → Prop := fun (x : RS × RS) r h' => aEv l 5 MX1_readBook n0 S0 61 [(0, .ref b0)] [] (xw [(1, b0, f0, s0), (8, b1, f1, x.1), (0, b2, f2, x.2)] h) r h'
def X1_readBook_j54 (v3 : Int32) (k0 : Bool) (s0 : RS) (s1 : RS) (s2 : RS) : Option ((Bool × Int32 × RS × RS) ⊕ (RS × RS)) :=
  thn (v3 + 1) fun x5 =>
  some (.inl (k0, x5, s1, s2))
theorem X1_readBook_j54_ok (ho : xok [(1, b0), (8, b1), (0, b2)] h.2.1) (hq_0_0 : f0 0 = some b1) (hq_0_1 : f0 1 = some b2) (v3 : Int32) (k0 : Bool) (s0 : RS) (s1 : RS) (s2 : RS) : aS l 5 MX1_readBook n0 S0 (a_LΦ (X1_readBook_x12 l n0 S0 h b0 b1 b2 f0 f1 f2 s0) l 5 MX1_readBook n0 S0 12 (fun (q : Bool × Int32 × RS × RS) => [(0, .ref b0), (2, .int (b2i q.1)), (3, .int q.2.1)]) (fun _ => []) (fun (q : Bool × Int32 × RS × RS) => xw [(1, b0, f0, s0), (8, b1, f1, q.2.2.1), (0, b2, f2, q.2.2.2)] h)) 54 [(0, .ref b0), (3, .int v3)] [.int (b2i k0)] (xw [(1, b0, f0, s0), (8, b1, f1, s1), (0, b2, f2, s2)] h) (X1_readBook_j54 v3 k0 s0 s1 s2) := by
  unfold X1_readBook_j54
  refine s_istore_n (lv' := [(2, .int (b2i k0)), (0, .ref b0), (3, .int v3)]) (pc := 54) dX1_readBook_54 (by decide) rfl ?_
  refine s_iincT (pc := 55) 2 (lv' := fun x5 => [(3, .int x5), (2, .int (b2i k0)), (0, .ref b0)]) dX1_readBook_55 rfl rfl (by decide) (fun _ => rfl) (fun x5 => ?_)
  refine s_goto (tgt := 12) (pc := 58) dX1_readBook_58 (by decide) ?_
  refine s_sub [2, 1, 0] rfl ?_
  exact s_ev (fun _ _ q => q)
def X1_readBook_b12 (v2 : Bool) (v3 : Int32) (s0 : RS) (s1 : RS) (s2 : RS) : Option ((Bool × Int32 × RS × RS) ⊕ (RS × RS)) :=
  if (900 : Int32) ≤ v3 then
    some (.inr (s1, s2))
  else
    if v2 = true then
      (pX8_isEnd s1).bind fun x2 =>
      if x2 = true then
        some (.inr (s1, s2))
      else
        (pX8_kindHere s1).bind fun x3 =>
        if x3 = 0 then
          (pX1_readIsland s0 s1 s2).bind fun x6 =>
          X1_readBook_j54 v3 x6.1 s0 x6.2.1 x6.2.2
        else
          (pX1_readChange s0 s1 s2).bind fun x4 =>
          X1_readBook_j54 v3 x4.1 s0 x4.2.1 x4.2.2
    else
      some (.inr (s1, s2))
theorem X1_readBook_b12_ok (ho : xok [(1, b0), (8, b1), (0, b2)] h.2.1) (hq_0_0 : f0 0 = some b1) (hq_0_1 : f0 1 = some b2) (v2 : Bool) (v3 : Int32) (s0 : RS) (s1 : RS) (s2 : RS) : aS l 5 MX1_readBook n0 S0 (a_LΦ (X1_readBook_x12 l n0 S0 h b0 b1 b2 f0 f1 f2 s0) l 5 MX1_readBook n0 S0 12 (fun (q : Bool × Int32 × RS × RS) => [(0, .ref b0), (2, .int (b2i q.1)), (3, .int q.2.1)]) (fun _ => []) (fun (q : Bool × Int32 × RS × RS) => xw [(1, b0, f0, s0), (8, b1, f1, q.2.2.1), (0, b2, f2, q.2.2.2)] h)) 12 [(0, .ref b0), (2, .int (b2i v2)), (3, .int v3)] [] (xw [(1, b0, f0, s0), (8, b1, f1, s1), (0, b2, f2, s2)] h) (X1_readBook_b12 v2 v3 s0 s1 s2) := by
  unfold X1_readBook_b12
  refine s_iload_n (pc := 12) 2 dX1_readBook_12 rfl ?_
  refine s_sipush (v := 900) (pc := 13) dX1_readBook_13 (by decide) ?_
  refine s_icmp_ge (tgt := 61) (pc := 16) dX1_readBook_16 (by decide) (fun _ => ?_) (fun _ => ?_)
  · refine s_sub [0] rfl ?_
    exact s_ev (fun _ _ q => q)
  · refine s_iload_n (pc := 19) 1 dX1_readBook_19 rfl ?_
    refine s_if_eqB (tgt := 61) (pc := 20) dX1_readBook_20 (by decide) (fun _ => ?_) (fun _ => ?_)
    · refine s_aload_n (pc := 23) 0 dX1_readBook_23 rfl ?_
      refine xg_X1_18 0 ho rfl (pc := 24) dX1_readBook_24 rfl hq_0_0 ?_
      refine x_callV (M := MX1_readBook) (L := [(1, b0, f0, s0), (8, b1, f1, s1), (0, b2, f2, s2)]) (h := h) (j := 1) (As := []) (st := []) (A := fun (x : Bool) => some (.int (b2i x))) (Lc := [(8, b1, f1, s1)]) (Lr := fun (x : Bool) => [(8, b1, f1, s1)]) (L2 := fun (x : Bool) => [(1, b0, f0, s0), (8, b1, f1, s1), (0, b2, f2, s2)]) cv_X1_28 (by decide) (pc := 27) dX1_readBook_27 ho rfl xc0_8 rfl rfl (Nat.le_of_ble_eq_true rfl) (xovs (L := [(1, b0, f0, s0), (8, b1, f1, s1), (0, b2, f2, s2)]) (h := h) [(1, (8, b1, f1, s1))] ho ⟨rfl, trivial⟩).1 (fun x => (xovs (L := [(1, b0, f0, s0), (8, b1, f1, s1), (0, b2, f2, s2)]) (h := h) [(1, (8, b1, f1, s1))] ho ⟨rfl, trivial⟩).1) (fun x hx => pX8_isEnd_ok (h := xw [(1, b0, f0, s0), (8, b1, f1, s1), (0, b2, f2, s2)] h) (f0 := f1) (xok_sub ho [1] rfl (by decide)) s1 x hx) rfl (fun x2 _ => ?_)
      refine s_if_neB (tgt := 61) (pc := 30) dX1_readBook_30 (by decide) (fun _ => ?_) (fun _ => ?_)
      · refine s_sub [0] rfl ?_
        exact s_ev (fun _ _ q => q)
      · refine s_aload_n (pc := 33) 0 dX1_readBook_33 rfl ?_
        refine xg_X1_18 0 ho rfl (pc := 34) dX1_readBook_34 rfl hq_0_0 ?_
        refine x_callV (M := MX1_readBook) (L := [(1, b0, f0, s0), (8, b1, f1, s1), (0, b2, f2, s2)]) (h := h) (j := 1) (As := []) (st := []) (A := fun (x : Int32) => some (.int x)) (Lc := [(8, b1, f1, s1)]) (Lr := fun (x : Int32) => [(8, b1, f1, s1)]) (L2 := fun (x : Int32) => [(1, b0, f0, s0), (8, b1, f1, s1), (0, b2, f2, s2)]) cv_X1_32 (by decide) (pc := 37) dX1_readBook_37 ho rfl xc0_8 rfl rfl (Nat.le_of_ble_eq_true rfl) (xovs (L := [(1, b0, f0, s0), (8, b1, f1, s1), (0, b2, f2, s2)]) (h := h) [(1, (8, b1, f1, s1))] ho ⟨rfl, trivial⟩).1 (fun x => (xovs (L := [(1, b0, f0, s0), (8, b1, f1, s1), (0, b2, f2, s2)]) (h := h) [(1, (8, b1, f1, s1))] ho ⟨rfl, trivial⟩).1) (fun x hx => pX8_kindHere_ok (h := xw [(1, b0, f0, s0), (8, b1, f1, s1), (0, b2, f2, s2)] h) (f0 := f1) (xok_sub ho [1] rfl (by decide)) s1 x hx) rfl (fun x3 _ => ?_)
        refine s_if_ne (tgt := 50) (pc := 40) dX1_readBook_40 (by decide) (fun _ => ?_) (fun _ => ?_)
        · refine s_aload_n (pc := 43) 0 dX1_readBook_43 rfl ?_
          refine x_callV (M := MX1_readBook) (L := [(1, b0, f0, s0), (8, b1, f1, s1), (0, b2, f2, s2)]) (h := h) (j := 0) (As := []) (st := []) (A := fun (x : Bool × RS × RS) => some (.int (b2i x.1))) (Lc := [(1, b0, f0, s0), (8, b1, f1, s1), (0, b2, f2, s2)]) (Lr := fun (x : Bool × RS × RS) => [(1, b0, f0, s0), (8, b1, f1, x.2.1), (0, b2, f2, x.2.2)]) (L2 := fun (x : Bool × RS × RS) => [(1, b0, f0, s0), (8, b1, f1, x.2.1), (0, b2, f2, x.2.2)]) cv_X1_36 (by decide) (pc := 44) dX1_readBook_44 ho rfl xc0_1 rfl rfl (Nat.le_of_ble_eq_true rfl) (xovs (L := [(1, b0, f0, s0), (8, b1, f1, s1), (0, b2, f2, s2)]) (h := h) [(0, (1, b0, f0, s0)), (1, (8, b1, f1, s1)), (2, (0, b2, f2, s2))] ho ⟨rfl, rfl, rfl, trivial⟩).1 (fun x => (xovs (L := [(1, b0, f0, s0), (8, b1, f1, s1), (0, b2, f2, s2)]) (h := h) [(0, (1, b0, f0, s0)), (1, (8, b1, f1, x.2.1)), (2, (0, b2, f2, x.2.2))] ho ⟨rfl, rfl, rfl, trivial⟩).1) (fun x hx => pX1_readIsland_ok (h := xw [(1, b0, f0, s0), (8, b1, f1, s1), (0, b2, f2, s2)] h) (f0 := f0) (f1 := f1) (f2 := f2) (xok_sub ho [0, 1, 2] rfl (by decide)) hq_0_0 hq_0_1 s0 s1 s2 x hx) rfl (fun x6 _ => ?_)
          refine s_goto (tgt := 54) (pc := 47) dX1_readBook_47 (by decide) ?_
          refine s_sub [0, 2] rfl ?_
          exact X1_readBook_j54_ok ho hq_0_0 hq_0_1 v3 x6.1 s0 x6.2.1 x6.2.2
        · refine s_aload_n (pc := 50) 0 dX1_readBook_50 rfl ?_
          refine x_callV (M := MX1_readBook) (L := [(1, b0, f0, s0), (8, b1, f1, s1), (0, b2, f2, s2)]) (h := h) (j := 0) (As := []) (st := []) (A := fun (x : Bool × RS × RS) => some (.int (b2i x.1))) (Lc := [(1, b0, f0, s0), (8, b1, f1, s1), (0, b2, f2, s2)]) (Lr := fun (x : Bool × RS × RS) => [(1, b0, f0, s0), (8, b1, f1, x.2.1), (0, b2, f2, x.2.2)]) (L2 := fun (x : Bool × RS × RS) => [(1, b0, f0, s0), (8, b1, f1, x.2.1), (0, b2, f2, x.2.2)]) cv_X1_39 (by decide) (pc := 51) dX1_readBook_51 ho rfl xc0_1 rfl rfl (Nat.le_of_ble_eq_true rfl) (xovs (L := [(1, b0, f0, s0), (8, b1, f1, s1), (0, b2, f2, s2)]) (h := h) [(0, (1, b0, f0, s0)), (1, (8, b1, f1, s1)), (2, (0, b2, f2, s2))] ho ⟨rfl, rfl, rfl, trivial⟩).1 (fun x => (xovs (L := [(1, b0, f0, s0), (8, b1, f1, s1), (0, b2, f2, s2)]) (h := h) [(0, (1, b0, f0, s0)), (1, (8, b1, f1, x.2.1)), (2, (0, b2, f2, x.2.2))] ho ⟨rfl, rfl, rfl, trivial⟩).1) (fun x hx => pX1_readChange_ok (h := xw [(1, b0, f0, s0), (8, b1, f1, s1), (0, b2, f2, s2)] h) (f0 := f0) (f1 := f1) (f2 := f2) (xok_sub ho [0, 1, 2] rfl (by decide)) hq_0_0 hq_0_1 s0 s1 s2 x hx) rfl (fun x4 _ => ?_)
          refine s_sub [0, 2] rfl ?_
          exact X1_readBook_j54_ok ho hq_0_0 hq_0_1 v3 x4.1 s0 x4.2.1 x4.2.2
    · refine s_sub [0] rfl ?_
      exact s_ev (fun _ _ q => q)
def pX1_readBook (s0 : RS) (s1 : RS) (s2 : RS) (a0 : Int32) : Option (RS × RS) :=
  (pX8_begin s1 a0).bind fun x1 =>
  (a_loop (fun (q : Bool × Int32 × RS × RS) => X1_readBook_b12 q.1 q.2.1 s0 q.2.2.1 q.2.2.2) FU (true, (0 : Int32), x1, s2)).bind fun (t7 : RS × RS) =>
    some (t7.1, t7.2)
theorem pX1_readBook_w (ho : xok [(1, b0), (8, b1), (0, b2)] h.2.1) (hq_0_0 : f0 0 = some b1) (hq_0_1 : f0 1 = some b2) (s0 : RS) (s1 : RS) (s2 : RS) (a0 : Int32) : aS l 5 MX1_readBook n0 S0 (oΦ (fun (x : RS × RS) => ((some (.ref b2)), xw [(1, b0, f0, s0), (8, b1, f1, x.1), (0, b2, f2, x.2)] h))) 0 [(0, .ref b0), (1, .int a0)] [] (xw [(1, b0, f0, s0), (8, b1, f1, s1), (0, b2, f2, s2)] h) (pX1_readBook s0 s1 s2 a0) := by
  unfold pX1_readBook
  refine s_aload_n (pc := 0) 0 dX1_readBook_0 rfl ?_
  refine xg_X1_18 0 ho rfl (pc := 1) dX1_readBook_1 rfl hq_0_0 ?_
  refine s_iload_n (pc := 4) 1 dX1_readBook_4 rfl ?_
  refine x_callV (M := MX1_readBook) (L := [(1, b0, f0, s0), (8, b1, f1, s1), (0, b2, f2, s2)]) (h := h) (j := 1) (As := [.int a0]) (st := []) (A := fun (x : RS) => none) (Lc := [(8, b1, f1, s1)]) (Lr := fun (x : RS) => [(8, b1, f1, x)]) (L2 := fun (x : RS) => [(1, b0, f0, s0), (8, b1, f1, x), (0, b2, f2, s2)]) cv_X1_22 (by decide) (pc := 5) dX1_readBook_5 ho rfl xc0_8 rfl rfl (Nat.le_of_ble_eq_true rfl) (xovs (L := [(1, b0, f0, s0), (8, b1, f1, s1), (0, b2, f2, s2)]) (h := h) [(1, (8, b1, f1, s1))] ho ⟨rfl, trivial⟩).1 (fun x => (xovs (L := [(1, b0, f0, s0), (8, b1, f1, s1), (0, b2, f2, s2)]) (h := h) [(1, (8, b1, f1, x))] ho ⟨rfl, trivial⟩).1) (fun x hx => pX8_begin_ok (h := xw [(1, b0, f0, s0), (8, b1, f1, s1), (0, b2, f2, s2)] h) (f0 := f1) (xok_sub ho [1] rfl (by decide)) s1 a0 x hx) rfl (fun x1 _ => ?_)
  refine s_iconst (v := 1) (pc := 8) dX1_readBook_8 (by decide) ?_
  refine s_istore_n (lv' := [(2, .int 1), (0, .ref b0), (1, .int a0)]) (pc := 9) dX1_readBook_9 (by decide) rfl ?_
  refine s_iconst (v := 0) (pc := 10) dX1_readBook_10 (by decide) ?_
  refine s_istore_n (lv' := [(3, .int 0), (2, .int 1), (0, .ref b0), (1, .int a0)]) (pc := 11) dX1_readBook_11 (by decide) rfl ?_
  refine s_bind (Ψ := X1_readBook_x12 l n0 S0 h b0 b1 b2 f0 f1 f2 s0) ?_ ?_
  · refine s_sub [2, 1, 0] rfl ?_
    exact s_loop (lvf := fun (q : Bool × Int32 × RS × RS) => [(0, .ref b0), (2, .int (b2i q.1)), (3, .int q.2.1)]) (stf := fun _ => []) (hf := fun (q : Bool × Int32 × RS × RS) => xw [(1, b0, f0, s0), (8, b1, f1, q.2.2.1), (0, b2, f2, q.2.2.2)] h) (fun q => X1_readBook_b12_ok ho hq_0_0 hq_0_1 q.1 q.2.1 s0 q.2.2.1 q.2.2.2) FU (true, (0 : Int32), x1, s2)
  · intro t7 z r h' hz hr
    refine (?_ : aS l 5 MX1_readBook n0 S0 (oΦ (fun (x : RS × RS) => ((some (.ref b2)), xw [(1, b0, f0, s0), (8, b1, f1, x.1), (0, b2, f2, x.2)] h))) 61 [(0, .ref b0)] [] (xw [(1, b0, f0, s0), (8, b1, f1, t7.1), (0, b2, f2, t7.2)] h) _) z hz r h' hr
    refine s_aload_n (pc := 61) 0 dX1_readBook_61 rfl ?_
    refine xg_X1_12 0 ho rfl (pc := 62) dX1_readBook_62 rfl hq_0_1 ?_
    exact s_aret (pc := 65) dX1_readBook_65 rfl (fun _ _ q => q)
theorem pX1_readBook_ok (ho : xok [(1, b0), (8, b1), (0, b2)] h.2.1) (hq_0_0 : f0 0 = some b1) (hq_0_1 : f0 1 = some b2) (s0 : RS) (s1 : RS) (s2 : RS) (a0 : Int32) : ∀ x, pX1_readBook s0 s1 s2 a0 = some x → aMet l 5 yX1_readBook cX1_readBook 4 (some (.object "SwapBook$Book")) [.ref b0, .int a0] (xw [(1, b0, f0, s0), (8, b1, f1, s1), (0, b2, f2, s2)] h) (some (.ref b2)) (xw [(1, b0, f0, s0), (8, b1, f1, x.1), (0, b2, f2, x.2)] h) := fun x hx => a_meth (ini := false) (y := yX1_readBook) (by decide +kernel) (fun q => by cases q) (fun _ => Nat.le_of_ble_eq_true rfl) (pX1_readBook_w ho hq_0_0 hq_0_1 s0 s1 s2 a0) x hx _ _ ⟨rfl, rfl⟩
end
section
variable {l : Launch} {n0 S0 : Nat} {h : aH} {b0 b1 b2 b3 : Nat} {f0 f1 f2 f3 : Nat → Option Nat}
abbrev MX4_beginEnd : aM := (cX4_beginEnd, RX4, 2, (some .boolean), false)
def X4_beginEnd_j13 (s0 : RS) (s1 : RS) (s2 : RS) (s3 : RS) : Option (Bool × RS × RS × RS) :=
  (pX8_blameToken s1).bind fun x1 =>
  some (x1.1, s0, x1.2, s3)
theorem X4_beginEnd_j13_ok (ho : xok [(4, b0), (8, b1), (0, b2), (3, b3)] h.2.1) (hq_0_0 : f0 0 = some b1) (hq_0_1 : f0 1 = some b2) (hq_0_2 : f0 2 = some b3) (s0 : RS) (s1 : RS) (s2 : RS) (s3 : RS) : aS l 1 MX4_beginEnd n0 S0 (oΦ (fun (x : Bool × RS × RS × RS) => ((some (.int (b2i x.1))), xw [(4, b0, f0, x.2.1), (8, b1, f1, x.2.2.1), (0, b2, f2, s2), (3, b3, f3, x.2.2.2)] h))) 13 [(0, .ref b0)] [] (xw [(4, b0, f0, s0), (8, b1, f1, s1), (0, b2, f2, s2), (3, b3, f3, s3)] h) (X4_beginEnd_j13 s0 s1 s2 s3) := by
  unfold X4_beginEnd_j13
  refine s_aload_n (pc := 13) 0 dX4_beginEnd_13 rfl ?_
  refine xg_X4_26 0 ho rfl (pc := 14) dX4_beginEnd_14 rfl hq_0_0 ?_
  refine x_callV (M := MX4_beginEnd) (L := [(4, b0, f0, s0), (8, b1, f1, s1), (0, b2, f2, s2), (3, b3, f3, s3)]) (h := h) (j := 1) (As := []) (st := []) (A := fun (x : Bool × RS) => some (.int (b2i x.1))) (Lc := [(8, b1, f1, s1)]) (Lr := fun (x : Bool × RS) => [(8, b1, f1, x.2)]) (L2 := fun (x : Bool × RS) => [(4, b0, f0, s0), (8, b1, f1, x.2), (0, b2, f2, s2), (3, b3, f3, s3)]) cv_X4_65 (by decide) (pc := 17) dX4_beginEnd_17 ho rfl xc0_8 rfl rfl (Nat.le_of_ble_eq_true rfl) (xovs (L := [(4, b0, f0, s0), (8, b1, f1, s1), (0, b2, f2, s2), (3, b3, f3, s3)]) (h := h) [(1, (8, b1, f1, s1))] ho ⟨rfl, trivial⟩).1 (fun x => (xovs (L := [(4, b0, f0, s0), (8, b1, f1, s1), (0, b2, f2, s2), (3, b3, f3, s3)]) (h := h) [(1, (8, b1, f1, x.2))] ho ⟨rfl, trivial⟩).1) (fun x hx => pX8_blameToken_ok (h := xw [(4, b0, f0, s0), (8, b1, f1, s1), (0, b2, f2, s2), (3, b3, f3, s3)] h) (f0 := f1) (xok_sub ho [1] rfl (by decide)) s1 x hx) rfl (fun x1 _ => ?_)
  exact s_zretB (b := x1.1) (pc := 20) dX4_beginEnd_20 rfl (fun _ _ q => q)
def pX4_beginEnd (s0 : RS) (s1 : RS) (s2 : RS) (s3 : RS) (a0 : Int32) : Option (Bool × RS × RS × RS) :=
  if (s0.1 4) ≤ 0 then
    X4_beginEnd_j13 s0 s1 s2 s3
  else
    if a0 < (60 : Int32) then
      thn (uI s0 4 ((s0.1 4) - (1 : Int32))) fun s_2 =>
      g_in a0 60 (thn (uA s3 2 (upd (s3.2.2.1 2) a0.toNatClampNeg (26 : Int32))) fun s_3 =>
      g_in (s_2.1 4) 3 (
      g_in a0 60 (thn (uA s_3 7 (upd (s_3.2.2.1 7) a0.toNatClampNeg (s_2.2.2.1 3 (s_2.1 4).toNatClampNeg))) fun s_4 =>
      g_in (s_2.1 4) 3 (
      g_in (s_2.2.2.1 3 (s_2.1 4).toNatClampNeg) 60 (thn (uA s_4 7 (upd (s_4.2.2.1 7) (s_2.2.2.1 3 (s_2.1 4).toNatClampNeg).toNatClampNeg a0)) fun s_5 =>
      thn (uI s_5 1 ((s_5.1 1) + (1 : Int32))) fun s_6 =>
      (pX8_advance s1).bind fun x7 =>
      some (true, s_2, x7, s_6))))))
    else
      X4_beginEnd_j13 s0 s1 s2 s3
theorem pX4_beginEnd_w (ho : xok [(4, b0), (8, b1), (0, b2), (3, b3)] h.2.1) (hq_0_0 : f0 0 = some b1) (hq_0_1 : f0 1 = some b2) (hq_0_2 : f0 2 = some b3) (s0 : RS) (s1 : RS) (s2 : RS) (s3 : RS) (a0 : Int32) : aS l 1 MX4_beginEnd n0 S0 (oΦ (fun (x : Bool × RS × RS × RS) => ((some (.int (b2i x.1))), xw [(4, b0, f0, x.2.1), (8, b1, f1, x.2.2.1), (0, b2, f2, s2), (3, b3, f3, x.2.2.2)] h))) 0 [(0, .ref b0), (1, .int a0)] [] (xw [(4, b0, f0, s0), (8, b1, f1, s1), (0, b2, f2, s2), (3, b3, f3, s3)] h) (pX4_beginEnd s0 s1 s2 s3 a0) := by
  unfold pX4_beginEnd
  refine s_aload_n (pc := 0) 0 dX4_beginEnd_0 rfl ?_
  refine xg_X4_22 0 ho rfl (pc := 1) dX4_beginEnd_1 rfl ?_
  refine s_if_le (tgt := 13) (pc := 4) dX4_beginEnd_4 (by decide) (fun _ => ?_) (fun _ => ?_)
  · refine s_sub [0] rfl ?_
    exact X4_beginEnd_j13_ok ho hq_0_0 hq_0_1 hq_0_2 s0 s1 s2 s3
  · refine s_iload_n (pc := 7) 1 dX4_beginEnd_7 rfl ?_
    refine s_bipush (v := 60) (pc := 8) dX4_beginEnd_8 (by decide) ?_
    refine s_icmp_lt (tgt := 21) (pc := 10) dX4_beginEnd_10 (by decide) (fun _ => ?_) (fun _ => ?_)
    · refine s_aload_n (pc := 21) 0 dX4_beginEnd_21 rfl ?_
      refine s_dup (pc := 22) dX4_beginEnd_22 rfl ?_
      refine xg_X4_22 0 ho rfl (pc := 23) dX4_beginEnd_23 rfl ?_
      refine s_iconst (v := 1) (pc := 26) dX4_beginEnd_26 (by decide) ?_
      refine s_isub (pc := 27) dX4_beginEnd_27 ?_
      refine xp_X4_22 (L' := fun s_2 => [(4, b0, f0, s_2), (8, b1, f1, s1), (0, b2, f2, s2), (3, b3, f3, s3)]) 0 ho rfl (fun _ => rfl) (pc := 28) dX4_beginEnd_28 rfl (fun s_2 => ?_)
      refine s_aload_n (pc := 31) 0 dX4_beginEnd_31 rfl ?_
      refine xg_X4_12 0 ho rfl (pc := 32) dX4_beginEnd_32 rfl hq_0_2 ?_
      refine xg_X4_68 3 ho rfl (pc := 35) dX4_beginEnd_35 rfl ?_
      refine s_iload_n (pc := 38) 1 dX4_beginEnd_38 rfl ?_
      refine s_bipush (v := 26) (pc := 39) dX4_beginEnd_39 (by decide) ?_
      refine xs_3_2 (L' := fun s_3 => [(4, b0, f0, s_2), (8, b1, f1, s1), (0, b2, f2, s2), (3, b3, f3, s_3)]) 3 ho rfl (fun _ => rfl) (pc := 41) dX4_beginEnd_41 (fun s_3 => ?_)
      refine s_aload_n (pc := 42) 0 dX4_beginEnd_42 rfl ?_
      refine xg_X4_12 0 ho rfl (pc := 43) dX4_beginEnd_43 rfl hq_0_2 ?_
      refine xg_X4_71 3 ho rfl (pc := 46) dX4_beginEnd_46 rfl ?_
      refine s_iload_n (pc := 49) 1 dX4_beginEnd_49 rfl ?_
      refine s_aload_n (pc := 50) 0 dX4_beginEnd_50 rfl ?_
      refine xg_X4_18 0 ho rfl (pc := 51) dX4_beginEnd_51 rfl ?_
      refine s_aload_n (pc := 54) 0 dX4_beginEnd_54 rfl ?_
      refine xg_X4_22 0 ho rfl (pc := 55) dX4_beginEnd_55 rfl ?_
      refine xl_4_3 0 ho rfl (pc := 58) dX4_beginEnd_58 ?_
      refine xs_3_7 (L' := fun s_4 => [(4, b0, f0, s_2), (8, b1, f1, s1), (0, b2, f2, s2), (3, b3, f3, s_4)]) 3 ho rfl (fun _ => rfl) (pc := 59) dX4_beginEnd_59 (fun s_4 => ?_)
      refine s_aload_n (pc := 60) 0 dX4_beginEnd_60 rfl ?_
      refine xg_X4_12 0 ho rfl (pc := 61) dX4_beginEnd_61 rfl hq_0_2 ?_
      refine xg_X4_71 3 ho rfl (pc := 64) dX4_beginEnd_64 rfl ?_
      refine s_aload_n (pc := 67) 0 dX4_beginEnd_67 rfl ?_
      refine xg_X4_18 0 ho rfl (pc := 68) dX4_beginEnd_68 rfl ?_
      refine s_aload_n (pc := 71) 0 dX4_beginEnd_71 rfl ?_
      refine xg_X4_22 0 ho rfl (pc := 72) dX4_beginEnd_72 rfl ?_
      refine xl_4_3 0 ho rfl (pc := 75) dX4_beginEnd_75 ?_
      refine s_iload_n (pc := 76) 1 dX4_beginEnd_76 rfl ?_
      refine xs_3_7 (L' := fun s_5 => [(4, b0, f0, s_2), (8, b1, f1, s1), (0, b2, f2, s2), (3, b3, f3, s_5)]) 3 ho rfl (fun _ => rfl) (pc := 77) dX4_beginEnd_77 (fun s_5 => ?_)
      refine s_aload_n (pc := 78) 0 dX4_beginEnd_78 rfl ?_
      refine xg_X4_12 0 ho rfl (pc := 79) dX4_beginEnd_79 rfl hq_0_2 ?_
      refine s_dup (pc := 82) dX4_beginEnd_82 rfl ?_
      refine xg_X4_44 3 ho rfl (pc := 83) dX4_beginEnd_83 rfl ?_
      refine s_iconst (v := 1) (pc := 86) dX4_beginEnd_86 (by decide) ?_
      refine s_iadd (pc := 87) dX4_beginEnd_87 ?_
      refine xp_X4_44 (L' := fun s_6 => [(4, b0, f0, s_2), (8, b1, f1, s1), (0, b2, f2, s2), (3, b3, f3, s_6)]) 3 ho rfl (fun _ => rfl) (pc := 88) dX4_beginEnd_88 rfl (fun s_6 => ?_)
      refine s_aload_n (pc := 91) 0 dX4_beginEnd_91 rfl ?_
      refine xg_X4_26 0 ho rfl (pc := 92) dX4_beginEnd_92 rfl hq_0_0 ?_
      refine x_callV (M := MX4_beginEnd) (L := [(4, b0, f0, s_2), (8, b1, f1, s1), (0, b2, f2, s2), (3, b3, f3, s_6)]) (h := h) (j := 1) (As := []) (st := []) (A := fun (x : RS) => none) (Lc := [(8, b1, f1, s1)]) (Lr := fun (x : RS) => [(8, b1, f1, x)]) (L2 := fun (x : RS) => [(4, b0, f0, s_2), (8, b1, f1, x), (0, b2, f2, s2), (3, b3, f3, s_6)]) cv_X4_74 (by decide) (pc := 95) dX4_beginEnd_95 ho rfl xc0_8 rfl rfl (Nat.le_of_ble_eq_true rfl) (xovs (L := [(4, b0, f0, s_2), (8, b1, f1, s1), (0, b2, f2, s2), (3, b3, f3, s_6)]) (h := h) [(1, (8, b1, f1, s1))] ho ⟨rfl, trivial⟩).1 (fun x => (xovs (L := [(4, b0, f0, s_2), (8, b1, f1, s1), (0, b2, f2, s2), (3, b3, f3, s_6)]) (h := h) [(1, (8, b1, f1, x))] ho ⟨rfl, trivial⟩).1) (fun x hx => pX8_advance_ok (h := xw [(4, b0, f0, s_2), (8, b1, f1, s1), (0, b2, f2, s2), (3, b3, f3, s_6)] h) (f0 := f1) (xok_sub ho [1] rfl (by decide)) s1 x hx) rfl (fun x7 _ => ?_)
      refine s_iconst (v := 1) (pc := 98) dX4_beginEnd_98 (by decide) ?_
      exact s_zretB (b := true) (pc := 99) dX4_beginEnd_99 rfl (fun _ _ q => q)
    · refine s_sub [0] rfl ?_
      exact X4_beginEnd_j13_ok ho hq_0_0 hq_0_1 hq_0_2 s0 s1 s2 s3
theorem pX4_beginEnd_ok (ho : xok [(4, b0), (8, b1), (0, b2), (3, b3)] h.2.1) (hq_0_0 : f0 0 = some b1) (hq_0_1 : f0 1 = some b2) (hq_0_2 : f0 2 = some b3) (s0 : RS) (s1 : RS) (s2 : RS) (s3 : RS) (a0 : Int32) : ∀ x, pX4_beginEnd s0 s1 s2 s3 a0 = some x → aMet l 1 yX4_beginEnd cX4_beginEnd 2 (some .boolean) [.ref b0, .int a0] (xw [(4, b0, f0, s0), (8, b1, f1, s1), (0, b2, f2, s2), (3, b3, f3, s3)] h) (some (.int (b2i x.1))) (xw [(4, b0, f0, x.2.1), (8, b1, f1, x.2.2.1), (0, b2, f2, s2), (3, b3, f3, x.2.2.2)] h) := fun x hx => a_meth (ini := false) (y := yX4_beginEnd) (by decide +kernel) (fun q => by cases q) (fun _ => Nat.le_of_ble_eq_true rfl) (pX4_beginEnd_w ho hq_0_0 hq_0_1 hq_0_2 s0 s1 s2 s3 a0) x hx _ _ ⟨rfl, rfl⟩
end
section
variable {l : Launch} {n0 S0 : Nat} {h : aH}
abbrev MX4_isStep : aM := (cX4_isStep, RX4, 1, (some .boolean), false)
def pX4_isStep (a0 : Int32) : Option Bool :=
  if a0 = 11 then
    some true
  else
    if a0 = 12 then
      some false
    else
      if a0 = 13 then
        some true
      else
        if a0 = 14 then
          some false
        else
          if a0 = 15 then
            some false
          else
            if a0 = 16 then
              some false
            else
              if a0 = 17 then
                some true
              else
                if a0 = 18 then
                  some true
                else
                  if a0 = 19 then
                    some true
                  else
                    if a0 = 20 then
                      some false
                    else
                      if a0 = 21 then
                        some false
                      else
                        if a0 = 22 then
                          some false
                        else
                          if a0 = 23 then
                            some true
                          else
                            if a0 = 24 then
                              some true
                            else
                              if a0 = 25 then
                                some true
                              else
                                if a0 = 26 then
                                  some false
                                else
                                  if a0 = 27 then
                                    some true
                                  else
                                    some false
theorem pX4_isStep_w (a0 : Int32) : aS l 0 MX4_isStep n0 S0 (oΦ (fun (x : Bool) => ((some (.int (b2i x))), h))) 0 [(0, .int a0)] [] (h) (pX4_isStep a0) := by
  unfold pX4_isStep
  refine s_iload_n (pc := 0) 0 dX4_isStep_0 rfl ?_
  refine s_case (c := a0 = 11) (fun c0 => ?_) (fun n1 => ?_)
  · refine s_tabIn (tgt := 84) (off := 83) (pc := 1) dX4_isStep_1 (by rw [c0]; decide) (by rw [c0]; decide) (by rw [c0]; rfl) (by decide) ?_
    refine s_iconst (v := 1) (pc := 84) dX4_isStep_84 (by decide) ?_
    exact s_zretB (b := true) (pc := 85) dX4_isStep_85 rfl (fun _ _ q => q)
  · refine s_case (c := a0 = 12) (fun c0 => ?_) (fun n2 => ?_)
    · refine s_tabIn (tgt := 86) (off := 85) (pc := 1) dX4_isStep_1 (by rw [c0]; decide) (by rw [c0]; decide) (by rw [c0]; rfl) (by decide) ?_
      refine s_iconst (v := 0) (pc := 86) dX4_isStep_86 (by decide) ?_
      exact s_zretB (b := false) (pc := 87) dX4_isStep_87 rfl (fun _ _ q => q)
    · refine s_case (c := a0 = 13) (fun c0 => ?_) (fun n3 => ?_)
      · refine s_tabIn (tgt := 84) (off := 83) (pc := 1) dX4_isStep_1 (by rw [c0]; decide) (by rw [c0]; decide) (by rw [c0]; rfl) (by decide) ?_
        refine s_iconst (v := 1) (pc := 84) dX4_isStep_84 (by decide) ?_
        exact s_zretB (b := true) (pc := 85) dX4_isStep_85 rfl (fun _ _ q => q)
      · refine s_case (c := a0 = 14) (fun c0 => ?_) (fun n4 => ?_)
        · refine s_tabIn (tgt := 86) (off := 85) (pc := 1) dX4_isStep_1 (by rw [c0]; decide) (by rw [c0]; decide) (by rw [c0]; rfl) (by decide) ?_
          refine s_iconst (v := 0) (pc := 86) dX4_isStep_86 (by decide) ?_
          exact s_zretB (b := false) (pc := 87) dX4_isStep_87 rfl (fun _ _ q => q)
        · refine s_case (c := a0 = 15) (fun c0 => ?_) (fun n5 => ?_)
          · refine s_tabIn (tgt := 86) (off := 85) (pc := 1) dX4_isStep_1 (by rw [c0]; decide) (by rw [c0]; decide) (by rw [c0]; rfl) (by decide) ?_
            refine s_iconst (v := 0) (pc := 86) dX4_isStep_86 (by decide) ?_
            exact s_zretB (b := false) (pc := 87) dX4_isStep_87 rfl (fun _ _ q => q)
          · refine s_case (c := a0 = 16) (fun c0 => ?_) (fun n6 => ?_)
            · refine s_tabIn (tgt := 86) (off := 85) (pc := 1) dX4_isStep_1 (by rw [c0]; decide) (by rw [c0]; decide) (by rw [c0]; rfl) (by decide) ?_
              refine s_iconst (v := 0) (pc := 86) dX4_isStep_86 (by decide) ?_
              exact s_zretB (b := false) (pc := 87) dX4_isStep_87 rfl (fun _ _ q => q)
            · refine s_case (c := a0 = 17) (fun c0 => ?_) (fun n7 => ?_)
              · refine s_tabIn (tgt := 84) (off := 83) (pc := 1) dX4_isStep_1 (by rw [c0]; decide) (by rw [c0]; decide) (by rw [c0]; rfl) (by decide) ?_
                refine s_iconst (v := 1) (pc := 84) dX4_isStep_84 (by decide) ?_
                exact s_zretB (b := true) (pc := 85) dX4_isStep_85 rfl (fun _ _ q => q)
              · refine s_case (c := a0 = 18) (fun c0 => ?_) (fun n8 => ?_)
                · refine s_tabIn (tgt := 84) (off := 83) (pc := 1) dX4_isStep_1 (by rw [c0]; decide) (by rw [c0]; decide) (by rw [c0]; rfl) (by decide) ?_
                  refine s_iconst (v := 1) (pc := 84) dX4_isStep_84 (by decide) ?_
                  exact s_zretB (b := true) (pc := 85) dX4_isStep_85 rfl (fun _ _ q => q)
                · refine s_case (c := a0 = 19) (fun c0 => ?_) (fun n9 => ?_)
                  · refine s_tabIn (tgt := 84) (off := 83) (pc := 1) dX4_isStep_1 (by rw [c0]; decide) (by rw [c0]; decide) (by rw [c0]; rfl) (by decide) ?_
                    refine s_iconst (v := 1) (pc := 84) dX4_isStep_84 (by decide) ?_
                    exact s_zretB (b := true) (pc := 85) dX4_isStep_85 rfl (fun _ _ q => q)
                  · refine s_case (c := a0 = 20) (fun c0 => ?_) (fun n10 => ?_)
                    · refine s_tabIn (tgt := 86) (off := 85) (pc := 1) dX4_isStep_1 (by rw [c0]; decide) (by rw [c0]; decide) (by rw [c0]; rfl) (by decide) ?_
                      refine s_iconst (v := 0) (pc := 86) dX4_isStep_86 (by decide) ?_
                      exact s_zretB (b := false) (pc := 87) dX4_isStep_87 rfl (fun _ _ q => q)
                    · refine s_case (c := a0 = 21) (fun c0 => ?_) (fun n11 => ?_)
                      · refine s_tabIn (tgt := 86) (off := 85) (pc := 1) dX4_isStep_1 (by rw [c0]; decide) (by rw [c0]; decide) (by rw [c0]; rfl) (by decide) ?_
                        refine s_iconst (v := 0) (pc := 86) dX4_isStep_86 (by decide) ?_
                        exact s_zretB (b := false) (pc := 87) dX4_isStep_87 rfl (fun _ _ q => q)
                      · refine s_case (c := a0 = 22) (fun c0 => ?_) (fun n12 => ?_)
                        · refine s_tabIn (tgt := 86) (off := 85) (pc := 1) dX4_isStep_1 (by rw [c0]; decide) (by rw [c0]; decide) (by rw [c0]; rfl) (by decide) ?_
                          refine s_iconst (v := 0) (pc := 86) dX4_isStep_86 (by decide) ?_
                          exact s_zretB (b := false) (pc := 87) dX4_isStep_87 rfl (fun _ _ q => q)
                        · refine s_case (c := a0 = 23) (fun c0 => ?_) (fun n13 => ?_)
                          · refine s_tabIn (tgt := 84) (off := 83) (pc := 1) dX4_isStep_1 (by rw [c0]; decide) (by rw [c0]; decide) (by rw [c0]; rfl) (by decide) ?_
                            refine s_iconst (v := 1) (pc := 84) dX4_isStep_84 (by decide) ?_
                            exact s_zretB (b := true) (pc := 85) dX4_isStep_85 rfl (fun _ _ q => q)
                          · refine s_case (c := a0 = 24) (fun c0 => ?_) (fun n14 => ?_)
                            · refine s_tabIn (tgt := 84) (off := 83) (pc := 1) dX4_isStep_1 (by rw [c0]; decide) (by rw [c0]; decide) (by rw [c0]; rfl) (by decide) ?_
                              refine s_iconst (v := 1) (pc := 84) dX4_isStep_84 (by decide) ?_
                              exact s_zretB (b := true) (pc := 85) dX4_isStep_85 rfl (fun _ _ q => q)
                            · refine s_case (c := a0 = 25) (fun c0 => ?_) (fun n15 => ?_)
                              · refine s_tabIn (tgt := 84) (off := 83) (pc := 1) dX4_isStep_1 (by rw [c0]; decide) (by rw [c0]; decide) (by rw [c0]; rfl) (by decide) ?_
                                refine s_iconst (v := 1) (pc := 84) dX4_isStep_84 (by decide) ?_
                                exact s_zretB (b := true) (pc := 85) dX4_isStep_85 rfl (fun _ _ q => q)
                              · refine s_case (c := a0 = 26) (fun c0 => ?_) (fun n16 => ?_)
                                · refine s_tabIn (tgt := 86) (off := 85) (pc := 1) dX4_isStep_1 (by rw [c0]; decide) (by rw [c0]; decide) (by rw [c0]; rfl) (by decide) ?_
                                  refine s_iconst (v := 0) (pc := 86) dX4_isStep_86 (by decide) ?_
                                  exact s_zretB (b := false) (pc := 87) dX4_isStep_87 rfl (fun _ _ q => q)
                                · refine s_case (c := a0 = 27) (fun c0 => ?_) (fun n17 => ?_)
                                  · refine s_tabIn (tgt := 84) (off := 83) (pc := 1) dX4_isStep_1 (by rw [c0]; decide) (by rw [c0]; decide) (by rw [c0]; rfl) (by decide) ?_
                                    refine s_iconst (v := 1) (pc := 84) dX4_isStep_84 (by decide) ?_
                                    exact s_zretB (b := true) (pc := 85) dX4_isStep_85 rfl (fun _ _ q => q)
                                  · refine s_tabOut (tgt := 86) (pc := 1) dX4_isStep_1 (sw_out (fun i h1 h2 => by
                                      have hi : i = 11 ∨ i = 12 ∨ i = 13 ∨ i = 14 ∨ i = 15 ∨ i = 16 ∨ i = 17 ∨ i = 18 ∨ i = 19 ∨ i = 20 ∨ i = 21 ∨ i = 22 ∨ i = 23 ∨ i = 24 ∨ i = 25 ∨ i = 26 ∨ i = 27 := by omega
                                      rcases hi with rfl | rfl | rfl | rfl | rfl | rfl | rfl | rfl | rfl | rfl | rfl | rfl | rfl | rfl | rfl | rfl | rfl
                                      · exact fun q => n1 (q.trans (by decide))
                                      · exact fun q => n2 (q.trans (by decide))
                                      · exact fun q => n3 (q.trans (by decide))
                                      · exact fun q => n4 (q.trans (by decide))
                                      · exact fun q => n5 (q.trans (by decide))
                                      · exact fun q => n6 (q.trans (by decide))
                                      · exact fun q => n7 (q.trans (by decide))
                                      · exact fun q => n8 (q.trans (by decide))
                                      · exact fun q => n9 (q.trans (by decide))
                                      · exact fun q => n10 (q.trans (by decide))
                                      · exact fun q => n11 (q.trans (by decide))
                                      · exact fun q => n12 (q.trans (by decide))
                                      · exact fun q => n13 (q.trans (by decide))
                                      · exact fun q => n14 (q.trans (by decide))
                                      · exact fun q => n15 (q.trans (by decide))
                                      · exact fun q => n16 (q.trans (by decide))
                                      · exact fun q => n17 (q.trans (by decide)))) (by decide) ?_
                                    refine s_iconst (v := 0) (pc := 86) dX4_isStep_86 (by decide) ?_
                                    exact s_zretB (b := false) (pc := 87) dX4_isStep_87 rfl (fun _ _ q => q)
theorem pX4_isStep_ok (a0 : Int32) : ∀ x, pX4_isStep a0 = some x → aMet l 0 yX4_isStep cX4_isStep 1 (some .boolean) [.int a0] (h) (some (.int (b2i x))) (h) := fun x hx => a_meth (ini := false) (y := yX4_isStep) (by decide +kernel) (fun q => by cases q) (fun _ => Nat.le_of_ble_eq_true rfl) (pX4_isStep_w a0) x hx _ _ ⟨rfl, rfl⟩
end
section
variable {l : Launch} {n0 S0 : Nat} {h : aH} {b0 b1 b2 b3 : Nat} {f0 f1 f2 f3 : Nat → Option Nat}
abbrev MX4_beginStep : aM := (cX4_beginStep, RX4, 3, (some .boolean), false)
def X4_beginStep_j33 (s0 : RS) (s1 : RS) (s2 : RS) (s3 : RS) : Option (Bool × RS × RS × RS) :=
  (pX8_blame s1 (6 : Int32)).bind fun x2 =>
  some (x2.1, s0, x2.2, s3)
theorem X4_beginStep_j33_ok (ho : xok [(4, b0), (8, b1), (0, b2), (3, b3)] h.2.1) (hq_0_0 : f0 0 = some b1) (hq_0_1 : f0 1 = some b2) (hq_0_2 : f0 2 = some b3) (s0 : RS) (s1 : RS) (s2 : RS) (s3 : RS) : aS l 1 MX4_beginStep n0 S0 (oΦ (fun (x : Bool × RS × RS × RS) => ((some (.int (b2i x.1))), xw [(4, b0, f0, x.2.1), (8, b1, f1, x.2.2.1), (0, b2, f2, s2), (3, b3, f3, x.2.2.2)] h))) 33 [(0, .ref b0)] [] (xw [(4, b0, f0, s0), (8, b1, f1, s1), (0, b2, f2, s2), (3, b3, f3, s3)] h) (X4_beginStep_j33 s0 s1 s2 s3) := by
  unfold X4_beginStep_j33
  refine s_aload_n (pc := 33) 0 dX4_beginStep_33 rfl ?_
  refine xg_X4_26 0 ho rfl (pc := 34) dX4_beginStep_34 rfl hq_0_0 ?_
  refine s_bipush (v := 6) (pc := 37) dX4_beginStep_37 (by decide) ?_
  refine x_callV (M := MX4_beginStep) (L := [(4, b0, f0, s0), (8, b1, f1, s1), (0, b2, f2, s2), (3, b3, f3, s3)]) (h := h) (j := 1) (As := [.int 6]) (st := []) (A := fun (x : Bool × RS) => some (.int (b2i x.1))) (Lc := [(8, b1, f1, s1)]) (Lr := fun (x : Bool × RS) => [(8, b1, f1, x.2)]) (L2 := fun (x : Bool × RS) => [(4, b0, f0, s0), (8, b1, f1, x.2), (0, b2, f2, s2), (3, b3, f3, s3)]) cv_X4_83 (by decide) (pc := 39) dX4_beginStep_39 ho rfl xc0_8 rfl rfl (Nat.le_of_ble_eq_true rfl) (xovs (L := [(4, b0, f0, s0), (8, b1, f1, s1), (0, b2, f2, s2), (3, b3, f3, s3)]) (h := h) [(1, (8, b1, f1, s1))] ho ⟨rfl, trivial⟩).1 (fun x => (xovs (L := [(4, b0, f0, s0), (8, b1, f1, s1), (0, b2, f2, s2), (3, b3, f3, s3)]) (h := h) [(1, (8, b1, f1, x.2))] ho ⟨rfl, trivial⟩).1) (fun x hx => pX8_blame_ok (h := xw [(4, b0, f0, s0), (8, b1, f1, s1), (0, b2, f2, s2), (3, b3, f3, s3)] h) (f0 := f1) (xok_sub ho [1] rfl (by decide)) s1 (6 : Int32) x hx) rfl (fun x2 _ => ?_)
  exact s_zretB (b := x2.1) (pc := 42) dX4_beginStep_42 rfl (fun _ _ q => q)
def X4_beginStep_j93 (v1 : Int32) (v2 : Int32) (s0 : RS) (s1 : RS) (s2 : RS) (s3 : RS) : Option (Bool × RS × RS × RS) :=
  g_in v1 60 (thn (uA s3 2 (upd (s3.2.2.1 2) v1.toNatClampNeg v2)) fun s_5 =>
  thn (uI s_5 1 ((s_5.1 1) + (1 : Int32))) fun s_6 =>
  thn (uI s_6 0 ((s_6.1 0) + (1 : Int32))) fun s_7 =>
  (pX8_advance s1).bind fun x8 =>
  some (true, s0, x8, s_7))
theorem X4_beginStep_j93_ok (ho : xok [(4, b0), (8, b1), (0, b2), (3, b3)] h.2.1) (hq_0_0 : f0 0 = some b1) (hq_0_1 : f0 1 = some b2) (hq_0_2 : f0 2 = some b3) (v1 : Int32) (v2 : Int32) (s0 : RS) (s1 : RS) (s2 : RS) (s3 : RS) : aS l 1 MX4_beginStep n0 S0 (oΦ (fun (x : Bool × RS × RS × RS) => ((some (.int (b2i x.1))), xw [(4, b0, f0, x.2.1), (8, b1, f1, x.2.2.1), (0, b2, f2, s2), (3, b3, f3, x.2.2.2)] h))) 93 [(0, .ref b0), (1, .int v1), (2, .int v2)] [] (xw [(4, b0, f0, s0), (8, b1, f1, s1), (0, b2, f2, s2), (3, b3, f3, s3)] h) (X4_beginStep_j93 v1 v2 s0 s1 s2 s3) := by
  unfold X4_beginStep_j93
  refine s_aload_n (pc := 93) 0 dX4_beginStep_93 rfl ?_
  refine xg_X4_12 0 ho rfl (pc := 94) dX4_beginStep_94 rfl hq_0_2 ?_
  refine xg_X4_68 3 ho rfl (pc := 97) dX4_beginStep_97 rfl ?_
  refine s_iload_n (pc := 100) 1 dX4_beginStep_100 rfl ?_
  refine s_iload_n (pc := 101) 2 dX4_beginStep_101 rfl ?_
  refine xs_3_2 (L' := fun s_5 => [(4, b0, f0, s0), (8, b1, f1, s1), (0, b2, f2, s2), (3, b3, f3, s_5)]) 3 ho rfl (fun _ => rfl) (pc := 102) dX4_beginStep_102 (fun s_5 => ?_)
  refine s_aload_n (pc := 103) 0 dX4_beginStep_103 rfl ?_
  refine xg_X4_12 0 ho rfl (pc := 104) dX4_beginStep_104 rfl hq_0_2 ?_
  refine s_dup (pc := 107) dX4_beginStep_107 rfl ?_
  refine xg_X4_44 3 ho rfl (pc := 108) dX4_beginStep_108 rfl ?_
  refine s_iconst (v := 1) (pc := 111) dX4_beginStep_111 (by decide) ?_
  refine s_iadd (pc := 112) dX4_beginStep_112 ?_
  refine xp_X4_44 (L' := fun s_6 => [(4, b0, f0, s0), (8, b1, f1, s1), (0, b2, f2, s2), (3, b3, f3, s_6)]) 3 ho rfl (fun _ => rfl) (pc := 113) dX4_beginStep_113 rfl (fun s_6 => ?_)
  refine s_aload_n (pc := 116) 0 dX4_beginStep_116 rfl ?_
  refine xg_X4_12 0 ho rfl (pc := 117) dX4_beginStep_117 rfl hq_0_2 ?_
  refine s_dup (pc := 120) dX4_beginStep_120 rfl ?_
  refine xg_X4_80 3 ho rfl (pc := 121) dX4_beginStep_121 rfl ?_
  refine s_iconst (v := 1) (pc := 124) dX4_beginStep_124 (by decide) ?_
  refine s_iadd (pc := 125) dX4_beginStep_125 ?_
  refine xp_X4_80 (L' := fun s_7 => [(4, b0, f0, s0), (8, b1, f1, s1), (0, b2, f2, s2), (3, b3, f3, s_7)]) 3 ho rfl (fun _ => rfl) (pc := 126) dX4_beginStep_126 rfl (fun s_7 => ?_)
  refine s_aload_n (pc := 129) 0 dX4_beginStep_129 rfl ?_
  refine xg_X4_26 0 ho rfl (pc := 130) dX4_beginStep_130 rfl hq_0_0 ?_
  refine x_callV (M := MX4_beginStep) (L := [(4, b0, f0, s0), (8, b1, f1, s1), (0, b2, f2, s2), (3, b3, f3, s_7)]) (h := h) (j := 1) (As := []) (st := []) (A := fun (x : RS) => none) (Lc := [(8, b1, f1, s1)]) (Lr := fun (x : RS) => [(8, b1, f1, x)]) (L2 := fun (x : RS) => [(4, b0, f0, s0), (8, b1, f1, x), (0, b2, f2, s2), (3, b3, f3, s_7)]) cv_X4_74 (by decide) (pc := 133) dX4_beginStep_133 ho rfl xc0_8 rfl rfl (Nat.le_of_ble_eq_true rfl) (xovs (L := [(4, b0, f0, s0), (8, b1, f1, s1), (0, b2, f2, s2), (3, b3, f3, s_7)]) (h := h) [(1, (8, b1, f1, s1))] ho ⟨rfl, trivial⟩).1 (fun x => (xovs (L := [(4, b0, f0, s0), (8, b1, f1, s1), (0, b2, f2, s2), (3, b3, f3, s_7)]) (h := h) [(1, (8, b1, f1, x))] ho ⟨rfl, trivial⟩).1) (fun x hx => pX8_advance_ok (h := xw [(4, b0, f0, s0), (8, b1, f1, s1), (0, b2, f2, s2), (3, b3, f3, s_7)] h) (f0 := f1) (xok_sub ho [1] rfl (by decide)) s1 x hx) rfl (fun x8 _ => ?_)
  refine s_iconst (v := 1) (pc := 136) dX4_beginStep_136 (by decide) ?_
  exact s_zretB (b := true) (pc := 137) dX4_beginStep_137 rfl (fun _ _ q => q)
def X4_beginStep_j55 (v1 : Int32) (v2 : Int32) (s0 : RS) (s1 : RS) (s2 : RS) (s3 : RS) : Option (Bool × RS × RS × RS) :=
  if (s0.1 4) < (3 : Int32) then
    g_in (s0.1 4) 3 (thn (uA s0 3 (upd (s0.2.2.1 3) (s0.1 4).toNatClampNeg v1)) fun s_3 =>
    thn (uI s_3 4 ((s_3.1 4) + (1 : Int32))) fun s_4 =>
    X4_beginStep_j93 v1 v2 s_4 s1 s2 s3)
  else
    (pX8_blame s1 (7 : Int32)).bind fun x9 =>
    some (x9.1, s0, x9.2, s3)
theorem X4_beginStep_j55_ok (ho : xok [(4, b0), (8, b1), (0, b2), (3, b3)] h.2.1) (hq_0_0 : f0 0 = some b1) (hq_0_1 : f0 1 = some b2) (hq_0_2 : f0 2 = some b3) (v1 : Int32) (v2 : Int32) (s0 : RS) (s1 : RS) (s2 : RS) (s3 : RS) : aS l 1 MX4_beginStep n0 S0 (oΦ (fun (x : Bool × RS × RS × RS) => ((some (.int (b2i x.1))), xw [(4, b0, f0, x.2.1), (8, b1, f1, x.2.2.1), (0, b2, f2, s2), (3, b3, f3, x.2.2.2)] h))) 55 [(0, .ref b0), (1, .int v1), (2, .int v2)] [] (xw [(4, b0, f0, s0), (8, b1, f1, s1), (0, b2, f2, s2), (3, b3, f3, s3)] h) (X4_beginStep_j55 v1 v2 s0 s1 s2 s3) := by
  unfold X4_beginStep_j55
  refine s_aload_n (pc := 55) 0 dX4_beginStep_55 rfl ?_
  refine xg_X4_22 0 ho rfl (pc := 56) dX4_beginStep_56 rfl ?_
  refine s_iconst (v := 3) (pc := 59) dX4_beginStep_59 (by decide) ?_
  refine s_icmp_lt (tgt := 73) (pc := 60) dX4_beginStep_60 (by decide) (fun _ => ?_) (fun _ => ?_)
  · refine s_aload_n (pc := 73) 0 dX4_beginStep_73 rfl ?_
    refine xg_X4_18 0 ho rfl (pc := 74) dX4_beginStep_74 rfl ?_
    refine s_aload_n (pc := 77) 0 dX4_beginStep_77 rfl ?_
    refine xg_X4_22 0 ho rfl (pc := 78) dX4_beginStep_78 rfl ?_
    refine s_iload_n (pc := 81) 1 dX4_beginStep_81 rfl ?_
    refine xs_4_3 (L' := fun s_3 => [(4, b0, f0, s_3), (8, b1, f1, s1), (0, b2, f2, s2), (3, b3, f3, s3)]) 0 ho rfl (fun _ => rfl) (pc := 82) dX4_beginStep_82 (fun s_3 => ?_)
    refine s_aload_n (pc := 83) 0 dX4_beginStep_83 rfl ?_
    refine s_dup (pc := 84) dX4_beginStep_84 rfl ?_
    refine xg_X4_22 0 ho rfl (pc := 85) dX4_beginStep_85 rfl ?_
    refine s_iconst (v := 1) (pc := 88) dX4_beginStep_88 (by decide) ?_
    refine s_iadd (pc := 89) dX4_beginStep_89 ?_
    refine xp_X4_22 (L' := fun s_4 => [(4, b0, f0, s_4), (8, b1, f1, s1), (0, b2, f2, s2), (3, b3, f3, s3)]) 0 ho rfl (fun _ => rfl) (pc := 90) dX4_beginStep_90 rfl (fun s_4 => ?_)
    exact X4_beginStep_j93_ok ho hq_0_0 hq_0_1 hq_0_2 v1 v2 s_4 s1 s2 s3
  · refine s_aload_n (pc := 63) 0 dX4_beginStep_63 rfl ?_
    refine xg_X4_26 0 ho rfl (pc := 64) dX4_beginStep_64 rfl hq_0_0 ?_
    refine s_bipush (v := 7) (pc := 67) dX4_beginStep_67 (by decide) ?_
    refine x_callV (M := MX4_beginStep) (L := [(4, b0, f0, s0), (8, b1, f1, s1), (0, b2, f2, s2), (3, b3, f3, s3)]) (h := h) (j := 1) (As := [.int 7]) (st := []) (A := fun (x : Bool × RS) => some (.int (b2i x.1))) (Lc := [(8, b1, f1, s1)]) (Lr := fun (x : Bool × RS) => [(8, b1, f1, x.2)]) (L2 := fun (x : Bool × RS) => [(4, b0, f0, s0), (8, b1, f1, x.2), (0, b2, f2, s2), (3, b3, f3, s3)]) cv_X4_83 (by decide) (pc := 69) dX4_beginStep_69 ho rfl xc0_8 rfl rfl (Nat.le_of_ble_eq_true rfl) (xovs (L := [(4, b0, f0, s0), (8, b1, f1, s1), (0, b2, f2, s2), (3, b3, f3, s3)]) (h := h) [(1, (8, b1, f1, s1))] ho ⟨rfl, trivial⟩).1 (fun x => (xovs (L := [(4, b0, f0, s0), (8, b1, f1, s1), (0, b2, f2, s2), (3, b3, f3, s3)]) (h := h) [(1, (8, b1, f1, x.2))] ho ⟨rfl, trivial⟩).1) (fun x hx => pX8_blame_ok (h := xw [(4, b0, f0, s0), (8, b1, f1, s1), (0, b2, f2, s2), (3, b3, f3, s3)] h) (f0 := f1) (xok_sub ho [1] rfl (by decide)) s1 (7 : Int32) x hx) rfl (fun x9 _ => ?_)
    exact s_zretB (b := x9.1) (pc := 72) dX4_beginStep_72 rfl (fun _ _ q => q)
def pX4_beginStep (s0 : RS) (s1 : RS) (s2 : RS) (s3 : RS) (a0 : Int32) (a1 : Int32) : Option (Bool × RS × RS × RS) :=
  (pX4_isStep a1).bind fun x1 =>
  if x1 = true then
    if (30 : Int32) ≤ (s3.1 0) then
      X4_beginStep_j33 s0 s1 s2 s3
    else
      if a0 < (60 : Int32) then
        if a1 = (19 : Int32) then
          X4_beginStep_j55 a0 a1 s0 s1 s2 s3
        else
          if a1 = (25 : Int32) then
            X4_beginStep_j55 a0 a1 s0 s1 s2 s3
          else
            X4_beginStep_j93 a0 a1 s0 s1 s2 s3
      else
        X4_beginStep_j33 s0 s1 s2 s3
  else
    (pX8_blameToken s1).bind fun x10 =>
    some (x10.1, s0, x10.2, s3)
theorem pX4_beginStep_w (ho : xok [(4, b0), (8, b1), (0, b2), (3, b3)] h.2.1) (hq_0_0 : f0 0 = some b1) (hq_0_1 : f0 1 = some b2) (hq_0_2 : f0 2 = some b3) (s0 : RS) (s1 : RS) (s2 : RS) (s3 : RS) (a0 : Int32) (a1 : Int32) : aS l 1 MX4_beginStep n0 S0 (oΦ (fun (x : Bool × RS × RS × RS) => ((some (.int (b2i x.1))), xw [(4, b0, f0, x.2.1), (8, b1, f1, x.2.2.1), (0, b2, f2, s2), (3, b3, f3, x.2.2.2)] h))) 0 [(0, .ref b0), (1, .int a0), (2, .int a1)] [] (xw [(4, b0, f0, s0), (8, b1, f1, s1), (0, b2, f2, s2), (3, b3, f3, s3)] h) (pX4_beginStep s0 s1 s2 s3 a0 a1) := by
  unfold pX4_beginStep
  refine s_iload_n (pc := 0) 2 dX4_beginStep_0 rfl ?_
  refine s_callS (M := MX4_beginStep) (As := [.int a1]) (st := []) (Ψ := fun (x : Bool) => (some (.int (b2i x)), xw [(4, b0, f0, s0), (8, b1, f1, s1), (0, b2, f2, s2), (3, b3, f3, s3)] h)) cs_X4_77 (by decide) (pc := 1) dX4_beginStep_1 rfl (Nat.le_of_ble_eq_true rfl) (fun x hx => pX4_isStep_ok a1 x hx) rfl (fun x1 _ => ?_)
  refine s_if_neB (tgt := 15) (pc := 4) dX4_beginStep_4 (by decide) (fun _ => ?_) (fun _ => ?_)
  · refine s_aload_n (pc := 15) 0 dX4_beginStep_15 rfl ?_
    refine xg_X4_12 0 ho rfl (pc := 16) dX4_beginStep_16 rfl hq_0_2 ?_
    refine xg_X4_80 3 ho rfl (pc := 19) dX4_beginStep_19 rfl ?_
    refine s_bipush (v := 30) (pc := 22) dX4_beginStep_22 (by decide) ?_
    refine s_icmp_ge (tgt := 33) (pc := 24) dX4_beginStep_24 (by decide) (fun _ => ?_) (fun _ => ?_)
    · refine s_sub [0] rfl ?_
      exact X4_beginStep_j33_ok ho hq_0_0 hq_0_1 hq_0_2 s0 s1 s2 s3
    · refine s_iload_n (pc := 27) 1 dX4_beginStep_27 rfl ?_
      refine s_bipush (v := 60) (pc := 28) dX4_beginStep_28 (by decide) ?_
      refine s_icmp_lt (tgt := 43) (pc := 30) dX4_beginStep_30 (by decide) (fun _ => ?_) (fun _ => ?_)
      · refine s_iload_n (pc := 43) 2 dX4_beginStep_43 rfl ?_
        refine s_bipush (v := 19) (pc := 44) dX4_beginStep_44 (by decide) ?_
        refine s_icmp_eq (tgt := 55) (pc := 46) dX4_beginStep_46 (by decide) (fun _ => ?_) (fun _ => ?_)
        · exact X4_beginStep_j55_ok ho hq_0_0 hq_0_1 hq_0_2 a0 a1 s0 s1 s2 s3
        · refine s_iload_n (pc := 49) 2 dX4_beginStep_49 rfl ?_
          refine s_bipush (v := 25) (pc := 50) dX4_beginStep_50 (by decide) ?_
          refine s_icmp_ne (tgt := 93) (pc := 52) dX4_beginStep_52 (by decide) (fun _ => ?_) (fun _ => ?_)
          · exact X4_beginStep_j55_ok ho hq_0_0 hq_0_1 hq_0_2 a0 a1 s0 s1 s2 s3
          · exact X4_beginStep_j93_ok ho hq_0_0 hq_0_1 hq_0_2 a0 a1 s0 s1 s2 s3
      · refine s_sub [0] rfl ?_
        exact X4_beginStep_j33_ok ho hq_0_0 hq_0_1 hq_0_2 s0 s1 s2 s3
  · refine s_aload_n (pc := 7) 0 dX4_beginStep_7 rfl ?_
    refine xg_X4_26 0 ho rfl (pc := 8) dX4_beginStep_8 rfl hq_0_0 ?_
    refine x_callV (M := MX4_beginStep) (L := [(4, b0, f0, s0), (8, b1, f1, s1), (0, b2, f2, s2), (3, b3, f3, s3)]) (h := h) (j := 1) (As := []) (st := []) (A := fun (x : Bool × RS) => some (.int (b2i x.1))) (Lc := [(8, b1, f1, s1)]) (Lr := fun (x : Bool × RS) => [(8, b1, f1, x.2)]) (L2 := fun (x : Bool × RS) => [(4, b0, f0, s0), (8, b1, f1, x.2), (0, b2, f2, s2), (3, b3, f3, s3)]) cv_X4_65 (by decide) (pc := 11) dX4_beginStep_11 ho rfl xc0_8 rfl rfl (Nat.le_of_ble_eq_true rfl) (xovs (L := [(4, b0, f0, s0), (8, b1, f1, s1), (0, b2, f2, s2), (3, b3, f3, s3)]) (h := h) [(1, (8, b1, f1, s1))] ho ⟨rfl, trivial⟩).1 (fun x => (xovs (L := [(4, b0, f0, s0), (8, b1, f1, s1), (0, b2, f2, s2), (3, b3, f3, s3)]) (h := h) [(1, (8, b1, f1, x.2))] ho ⟨rfl, trivial⟩).1) (fun x hx => pX8_blameToken_ok (h := xw [(4, b0, f0, s0), (8, b1, f1, s1), (0, b2, f2, s2), (3, b3, f3, s3)] h) (f0 := f1) (xok_sub ho [1] rfl (by decide)) s1 x hx) rfl (fun x10 _ => ?_)
    exact s_zretB (b := x10.1) (pc := 14) dX4_beginStep_14 rfl (fun _ _ q => q)
theorem pX4_beginStep_ok (ho : xok [(4, b0), (8, b1), (0, b2), (3, b3)] h.2.1) (hq_0_0 : f0 0 = some b1) (hq_0_1 : f0 1 = some b2) (hq_0_2 : f0 2 = some b3) (s0 : RS) (s1 : RS) (s2 : RS) (s3 : RS) (a0 : Int32) (a1 : Int32) : ∀ x, pX4_beginStep s0 s1 s2 s3 a0 a1 = some x → aMet l 1 yX4_beginStep cX4_beginStep 3 (some .boolean) [.ref b0, .int a0, .int a1] (xw [(4, b0, f0, s0), (8, b1, f1, s1), (0, b2, f2, s2), (3, b3, f3, s3)] h) (some (.int (b2i x.1))) (xw [(4, b0, f0, x.2.1), (8, b1, f1, x.2.2.1), (0, b2, f2, s2), (3, b3, f3, x.2.2.2)] h) := fun x hx => a_meth (ini := false) (y := yX4_beginStep) (by decide +kernel) (fun q => by cases q) (fun _ => Nat.le_of_ble_eq_true rfl) (pX4_beginStep_w ho hq_0_0 hq_0_1 hq_0_2 s0 s1 s2 s3 a0 a1) x hx _ _ ⟨rfl, rfl⟩
end
section
variable {l : Launch} {n0 S0 : Nat} {h : aH} {b0 b1 b2 b3 : Nat} {f0 f1 f2 f3 : Nat → Option Nat}
abbrev MX4_advanceBehind : aM := (cX4_advanceBehind, RX4, 2, (some .boolean), false)
def pX4_advanceBehind (s0 : RS) (s1 : RS) (s2 : RS) (s3 : RS) (a0 : Int32) : Option (Bool × RS) :=
  if a0 = (-1 : Int32) then
    some (false, s1)
  else
    (pX8_advance s1).bind fun x1 =>
    some (true, x1)
theorem pX4_advanceBehind_w (ho : xok [(4, b0), (8, b1), (0, b2), (3, b3)] h.2.1) (hq_0_0 : f0 0 = some b1) (hq_0_1 : f0 1 = some b2) (hq_0_2 : f0 2 = some b3) (s0 : RS) (s1 : RS) (s2 : RS) (s3 : RS) (a0 : Int32) : aS l 1 MX4_advanceBehind n0 S0 (oΦ (fun (x : Bool × RS) => ((some (.int (b2i x.1))), xw [(4, b0, f0, s0), (8, b1, f1, x.2), (0, b2, f2, s2), (3, b3, f3, s3)] h))) 0 [(0, .ref b0), (1, .int a0)] [] (xw [(4, b0, f0, s0), (8, b1, f1, s1), (0, b2, f2, s2), (3, b3, f3, s3)] h) (pX4_advanceBehind s0 s1 s2 s3 a0) := by
  unfold pX4_advanceBehind
  refine s_iload_n (pc := 0) 1 dX4_advanceBehind_0 rfl ?_
  refine s_iconst (v := (-1)) (pc := 1) dX4_advanceBehind_1 (by decide) ?_
  refine s_icmp_ne (tgt := 7) (pc := 2) dX4_advanceBehind_2 (by decide) (fun _ => ?_) (fun _ => ?_)
  · refine s_iconst (v := 0) (pc := 5) dX4_advanceBehind_5 (by decide) ?_
    exact s_zretB (b := false) (pc := 6) dX4_advanceBehind_6 rfl (fun _ _ q => q)
  · refine s_aload_n (pc := 7) 0 dX4_advanceBehind_7 rfl ?_
    refine xg_X4_26 0 ho rfl (pc := 8) dX4_advanceBehind_8 rfl hq_0_0 ?_
    refine x_callV (M := MX4_advanceBehind) (L := [(4, b0, f0, s0), (8, b1, f1, s1), (0, b2, f2, s2), (3, b3, f3, s3)]) (h := h) (j := 1) (As := []) (st := []) (A := fun (x : RS) => none) (Lc := [(8, b1, f1, s1)]) (Lr := fun (x : RS) => [(8, b1, f1, x)]) (L2 := fun (x : RS) => [(4, b0, f0, s0), (8, b1, f1, x), (0, b2, f2, s2), (3, b3, f3, s3)]) cv_X4_74 (by decide) (pc := 11) dX4_advanceBehind_11 ho rfl xc0_8 rfl rfl (Nat.le_of_ble_eq_true rfl) (xovs (L := [(4, b0, f0, s0), (8, b1, f1, s1), (0, b2, f2, s2), (3, b3, f3, s3)]) (h := h) [(1, (8, b1, f1, s1))] ho ⟨rfl, trivial⟩).1 (fun x => (xovs (L := [(4, b0, f0, s0), (8, b1, f1, s1), (0, b2, f2, s2), (3, b3, f3, s3)]) (h := h) [(1, (8, b1, f1, x))] ho ⟨rfl, trivial⟩).1) (fun x hx => pX8_advance_ok (h := xw [(4, b0, f0, s0), (8, b1, f1, s1), (0, b2, f2, s2), (3, b3, f3, s3)] h) (f0 := f1) (xok_sub ho [1] rfl (by decide)) s1 x hx) rfl (fun x1 _ => ?_)
    refine s_iconst (v := 1) (pc := 14) dX4_advanceBehind_14 (by decide) ?_
    exact s_zretB (b := true) (pc := 15) dX4_advanceBehind_15 rfl (fun _ _ q => q)
theorem pX4_advanceBehind_ok (ho : xok [(4, b0), (8, b1), (0, b2), (3, b3)] h.2.1) (hq_0_0 : f0 0 = some b1) (hq_0_1 : f0 1 = some b2) (hq_0_2 : f0 2 = some b3) (s0 : RS) (s1 : RS) (s2 : RS) (s3 : RS) (a0 : Int32) : ∀ x, pX4_advanceBehind s0 s1 s2 s3 a0 = some x → aMet l 1 yX4_advanceBehind cX4_advanceBehind 2 (some .boolean) [.ref b0, .int a0] (xw [(4, b0, f0, s0), (8, b1, f1, s1), (0, b2, f2, s2), (3, b3, f3, s3)] h) (some (.int (b2i x.1))) (xw [(4, b0, f0, s0), (8, b1, f1, x.2), (0, b2, f2, s2), (3, b3, f3, s3)] h) := fun x hx => a_meth (ini := false) (y := yX4_advanceBehind) (by decide +kernel) (fun q => by cases q) (fun _ => Nat.le_of_ble_eq_true rfl) (pX4_advanceBehind_w ho hq_0_0 hq_0_1 hq_0_2 s0 s1 s2 s3 a0) x hx _ _ ⟨rfl, rfl⟩
end
section
variable {l : Launch} {n0 S0 : Nat} {h : aH} {b0 b1 b2 b3 : Nat} {f0 f1 f2 f3 : Nat → Option Nat}
abbrev MX4_readChange : aM := (cX4_readChange, RX4, 2, (some .boolean), false)
def pX4_readChange (s0 : RS) (s1 : RS) (s2 : RS) (s3 : RS) (a0 : Int32) : Option (Bool × RS × RS) :=
  (pX8_changeHere s1 s2).bind fun x1 =>
  g_in a0 60 (thn (uA s3 4 (upd (s3.2.2.1 4) a0.toNatClampNeg x1.1)) fun s_2 =>
  g_in a0 60 (
  (pX4_advanceBehind s0 x1.2 s2 s_2 (s_2.2.2.1 4 a0.toNatClampNeg)).bind fun x3 =>
  some (x3.1, x3.2, s_2)))
theorem pX4_readChange_w (ho : xok [(4, b0), (8, b1), (0, b2), (3, b3)] h.2.1) (hq_0_0 : f0 0 = some b1) (hq_0_1 : f0 1 = some b2) (hq_0_2 : f0 2 = some b3) (s0 : RS) (s1 : RS) (s2 : RS) (s3 : RS) (a0 : Int32) : aS l 2 MX4_readChange n0 S0 (oΦ (fun (x : Bool × RS × RS) => ((some (.int (b2i x.1))), xw [(4, b0, f0, s0), (8, b1, f1, x.2.1), (0, b2, f2, s2), (3, b3, f3, x.2.2)] h))) 0 [(0, .ref b0), (1, .int a0)] [] (xw [(4, b0, f0, s0), (8, b1, f1, s1), (0, b2, f2, s2), (3, b3, f3, s3)] h) (pX4_readChange s0 s1 s2 s3 a0) := by
  unfold pX4_readChange
  refine s_aload_n (pc := 0) 0 dX4_readChange_0 rfl ?_
  refine xg_X4_12 0 ho rfl (pc := 1) dX4_readChange_1 rfl hq_0_2 ?_
  refine xg_X4_109 3 ho rfl (pc := 4) dX4_readChange_4 rfl ?_
  refine s_iload_n (pc := 7) 1 dX4_readChange_7 rfl ?_
  refine s_aload_n (pc := 8) 0 dX4_readChange_8 rfl ?_
  refine xg_X4_26 0 ho rfl (pc := 9) dX4_readChange_9 rfl hq_0_0 ?_
  refine s_aload_n (pc := 12) 0 dX4_readChange_12 rfl ?_
  refine xg_X4_30 0 ho rfl (pc := 13) dX4_readChange_13 rfl hq_0_1 ?_
  refine x_callV (M := MX4_readChange) (L := [(4, b0, f0, s0), (8, b1, f1, s1), (0, b2, f2, s2), (3, b3, f3, s3)]) (h := h) (j := 1) (As := [.ref b2]) (st := [.int a0, .ref (b3 + 3)]) (A := fun (x : Int32 × RS) => some (.int x.1)) (Lc := [(8, b1, f1, s1), (0, b2, f2, s2)]) (Lr := fun (x : Int32 × RS) => [(8, b1, f1, x.2), (0, b2, f2, s2)]) (L2 := fun (x : Int32 × RS) => [(4, b0, f0, s0), (8, b1, f1, x.2), (0, b2, f2, s2), (3, b3, f3, s3)]) cv_X4_112 (by decide) (pc := 16) dX4_readChange_16 ho rfl xc0_8 rfl rfl (Nat.le_of_ble_eq_true rfl) (xovs (L := [(4, b0, f0, s0), (8, b1, f1, s1), (0, b2, f2, s2), (3, b3, f3, s3)]) (h := h) [(1, (8, b1, f1, s1)), (2, (0, b2, f2, s2))] ho ⟨rfl, rfl, trivial⟩).1 (fun x => (xovs (L := [(4, b0, f0, s0), (8, b1, f1, s1), (0, b2, f2, s2), (3, b3, f3, s3)]) (h := h) [(1, (8, b1, f1, x.2)), (2, (0, b2, f2, s2))] ho ⟨rfl, rfl, trivial⟩).1) (fun x hx => pX8_changeHere_ok (h := xw [(4, b0, f0, s0), (8, b1, f1, s1), (0, b2, f2, s2), (3, b3, f3, s3)] h) (f0 := f1) (f1 := f2) (xok_sub ho [1, 2] rfl (by decide)) s1 s2 x hx) rfl (fun x1 _ => ?_)
  refine xs_3_4 (L' := fun s_2 => [(4, b0, f0, s0), (8, b1, f1, x1.2), (0, b2, f2, s2), (3, b3, f3, s_2)]) 3 ho rfl (fun _ => rfl) (pc := 19) dX4_readChange_19 (fun s_2 => ?_)
  refine s_aload_n (pc := 20) 0 dX4_readChange_20 rfl ?_
  refine s_aload_n (pc := 21) 0 dX4_readChange_21 rfl ?_
  refine xg_X4_12 0 ho rfl (pc := 22) dX4_readChange_22 rfl hq_0_2 ?_
  refine xg_X4_109 3 ho rfl (pc := 25) dX4_readChange_25 rfl ?_
  refine s_iload_n (pc := 28) 1 dX4_readChange_28 rfl ?_
  refine xl_3_4 3 ho rfl (pc := 29) dX4_readChange_29 ?_
  refine x_callV (M := MX4_readChange) (L := [(4, b0, f0, s0), (8, b1, f1, x1.2), (0, b2, f2, s2), (3, b3, f3, s_2)]) (h := h) (j := 0) (As := [.int (s_2.2.2.1 4 a0.toNatClampNeg)]) (st := []) (A := fun (x : Bool × RS) => some (.int (b2i x.1))) (Lc := [(4, b0, f0, s0), (8, b1, f1, x1.2), (0, b2, f2, s2), (3, b3, f3, s_2)]) (Lr := fun (x : Bool × RS) => [(4, b0, f0, s0), (8, b1, f1, x.2), (0, b2, f2, s2), (3, b3, f3, s_2)]) (L2 := fun (x : Bool × RS) => [(4, b0, f0, s0), (8, b1, f1, x.2), (0, b2, f2, s2), (3, b3, f3, s_2)]) cv_X4_116 (by decide) (pc := 30) dX4_readChange_30 ho rfl xc0_4 rfl rfl (Nat.le_of_ble_eq_true rfl) (xovs (L := [(4, b0, f0, s0), (8, b1, f1, x1.2), (0, b2, f2, s2), (3, b3, f3, s_2)]) (h := h) [(0, (4, b0, f0, s0)), (1, (8, b1, f1, x1.2)), (2, (0, b2, f2, s2)), (3, (3, b3, f3, s_2))] ho ⟨rfl, rfl, rfl, rfl, trivial⟩).1 (fun x => (xovs (L := [(4, b0, f0, s0), (8, b1, f1, x1.2), (0, b2, f2, s2), (3, b3, f3, s_2)]) (h := h) [(0, (4, b0, f0, s0)), (1, (8, b1, f1, x.2)), (2, (0, b2, f2, s2)), (3, (3, b3, f3, s_2))] ho ⟨rfl, rfl, rfl, rfl, trivial⟩).1) (fun x hx => pX4_advanceBehind_ok (h := xw [(4, b0, f0, s0), (8, b1, f1, x1.2), (0, b2, f2, s2), (3, b3, f3, s_2)] h) (f0 := f0) (f1 := f1) (f2 := f2) (f3 := f3) (xok_sub ho [0, 1, 2, 3] rfl (by decide)) hq_0_0 hq_0_1 hq_0_2 s0 x1.2 s2 s_2 (s_2.2.2.1 4 a0.toNatClampNeg) x hx) rfl (fun x3 _ => ?_)
  exact s_zretB (b := x3.1) (pc := 33) dX4_readChange_33 rfl (fun _ _ q => q)
theorem pX4_readChange_ok (ho : xok [(4, b0), (8, b1), (0, b2), (3, b3)] h.2.1) (hq_0_0 : f0 0 = some b1) (hq_0_1 : f0 1 = some b2) (hq_0_2 : f0 2 = some b3) (s0 : RS) (s1 : RS) (s2 : RS) (s3 : RS) (a0 : Int32) : ∀ x, pX4_readChange s0 s1 s2 s3 a0 = some x → aMet l 2 yX4_readChange cX4_readChange 2 (some .boolean) [.ref b0, .int a0] (xw [(4, b0, f0, s0), (8, b1, f1, s1), (0, b2, f2, s2), (3, b3, f3, s3)] h) (some (.int (b2i x.1))) (xw [(4, b0, f0, s0), (8, b1, f1, x.2.1), (0, b2, f2, s2), (3, b3, f3, x.2.2)] h) := fun x hx => a_meth (ini := false) (y := yX4_readChange) (by decide +kernel) (fun q => by cases q) (fun _ => Nat.le_of_ble_eq_true rfl) (pX4_readChange_w ho hq_0_0 hq_0_1 hq_0_2 s0 s1 s2 s3 a0) x hx _ _ ⟨rfl, rfl⟩
end
section
variable {l : Launch} {n0 S0 : Nat} {h : aH} {b0 b1 b2 b3 : Nat} {f0 f1 f2 f3 : Nat → Option Nat}
abbrev MX4_readNumber : aM := (cX4_readNumber, RX4, 4, (some .boolean), false)
def pX4_readNumber (s0 : RS) (s1 : RS) (s2 : RS) (s3 : RS) (a0 : Int32) (a1 : Int32) (a2 : Int32) : Option (Bool × RS × RS) :=
  (pX8_passNumber s1 a1 a2).bind fun x1 =>
  g_in a0 60 (thn (uA s3 5 (upd (s3.2.2.1 5) a0.toNatClampNeg x1.1)) fun s_2 =>
  g_in a0 60 (
  if (s_2.2.2.1 5 a0.toNatClampNeg) = (-1 : Int32) then
    some (false, x1.2, s_2)
  else
    some (true, x1.2, s_2)))
theorem pX4_readNumber_w (ho : xok [(4, b0), (8, b1), (0, b2), (3, b3)] h.2.1) (hq_0_0 : f0 0 = some b1) (hq_0_1 : f0 1 = some b2) (hq_0_2 : f0 2 = some b3) (s0 : RS) (s1 : RS) (s2 : RS) (s3 : RS) (a0 : Int32) (a1 : Int32) (a2 : Int32) : aS l 2 MX4_readNumber n0 S0 (oΦ (fun (x : Bool × RS × RS) => ((some (.int (b2i x.1))), xw [(4, b0, f0, s0), (8, b1, f1, x.2.1), (0, b2, f2, s2), (3, b3, f3, x.2.2)] h))) 0 [(0, .ref b0), (1, .int a0), (2, .int a1), (3, .int a2)] [] (xw [(4, b0, f0, s0), (8, b1, f1, s1), (0, b2, f2, s2), (3, b3, f3, s3)] h) (pX4_readNumber s0 s1 s2 s3 a0 a1 a2) := by
  unfold pX4_readNumber
  refine s_aload_n (pc := 0) 0 dX4_readNumber_0 rfl ?_
  refine xg_X4_12 0 ho rfl (pc := 1) dX4_readNumber_1 rfl hq_0_2 ?_
  refine xg_X4_125 3 ho rfl (pc := 4) dX4_readNumber_4 rfl ?_
  refine s_iload_n (pc := 7) 1 dX4_readNumber_7 rfl ?_
  refine s_aload_n (pc := 8) 0 dX4_readNumber_8 rfl ?_
  refine xg_X4_26 0 ho rfl (pc := 9) dX4_readNumber_9 rfl hq_0_0 ?_
  refine s_iload_n (pc := 12) 2 dX4_readNumber_12 rfl ?_
  refine s_iload_n (pc := 13) 3 dX4_readNumber_13 rfl ?_
  refine x_callV (M := MX4_readNumber) (L := [(4, b0, f0, s0), (8, b1, f1, s1), (0, b2, f2, s2), (3, b3, f3, s3)]) (h := h) (j := 1) (As := [.int a1, .int a2]) (st := [.int a0, .ref (b3 + 4)]) (A := fun (x : Int32 × RS) => some (.int x.1)) (Lc := [(8, b1, f1, s1)]) (Lr := fun (x : Int32 × RS) => [(8, b1, f1, x.2)]) (L2 := fun (x : Int32 × RS) => [(4, b0, f0, s0), (8, b1, f1, x.2), (0, b2, f2, s2), (3, b3, f3, s3)]) cv_X4_128 (by decide) (pc := 14) dX4_readNumber_14 ho rfl xc0_8 rfl rfl (Nat.le_of_ble_eq_true rfl) (xovs (L := [(4, b0, f0, s0), (8, b1, f1, s1), (0, b2, f2, s2), (3, b3, f3, s3)]) (h := h) [(1, (8, b1, f1, s1))] ho ⟨rfl, trivial⟩).1 (fun x => (xovs (L := [(4, b0, f0, s0), (8, b1, f1, s1), (0, b2, f2, s2), (3, b3, f3, s3)]) (h := h) [(1, (8, b1, f1, x.2))] ho ⟨rfl, trivial⟩).1) (fun x hx => pX8_passNumber_ok (h := xw [(4, b0, f0, s0), (8, b1, f1, s1), (0, b2, f2, s2), (3, b3, f3, s3)] h) (f0 := f1) (xok_sub ho [1] rfl (by decide)) s1 a1 a2 x hx) rfl (fun x1 _ => ?_)
  refine xs_3_5 (L' := fun s_2 => [(4, b0, f0, s0), (8, b1, f1, x1.2), (0, b2, f2, s2), (3, b3, f3, s_2)]) 3 ho rfl (fun _ => rfl) (pc := 17) dX4_readNumber_17 (fun s_2 => ?_)
  refine s_aload_n (pc := 18) 0 dX4_readNumber_18 rfl ?_
  refine xg_X4_12 0 ho rfl (pc := 19) dX4_readNumber_19 rfl hq_0_2 ?_
  refine xg_X4_125 3 ho rfl (pc := 22) dX4_readNumber_22 rfl ?_
  refine s_iload_n (pc := 25) 1 dX4_readNumber_25 rfl ?_
  refine xl_3_5 3 ho rfl (pc := 26) dX4_readNumber_26 ?_
  refine s_iconst (v := (-1)) (pc := 27) dX4_readNumber_27 (by decide) ?_
  refine s_icmp_eq (tgt := 35) (pc := 28) dX4_readNumber_28 (by decide) (fun _ => ?_) (fun _ => ?_)
  · refine s_iconst (v := 0) (pc := 35) dX4_readNumber_35 (by decide) ?_
    exact s_zretB (b := false) (pc := 36) dX4_readNumber_36 rfl (fun _ _ q => q)
  · refine s_iconst (v := 1) (pc := 31) dX4_readNumber_31 (by decide) ?_
    refine s_goto (tgt := 36) (pc := 32) dX4_readNumber_32 (by decide) ?_
    exact s_zretB (b := true) (pc := 36) dX4_readNumber_36 rfl (fun _ _ q => q)
theorem pX4_readNumber_ok (ho : xok [(4, b0), (8, b1), (0, b2), (3, b3)] h.2.1) (hq_0_0 : f0 0 = some b1) (hq_0_1 : f0 1 = some b2) (hq_0_2 : f0 2 = some b3) (s0 : RS) (s1 : RS) (s2 : RS) (s3 : RS) (a0 : Int32) (a1 : Int32) (a2 : Int32) : ∀ x, pX4_readNumber s0 s1 s2 s3 a0 a1 a2 = some x → aMet l 2 yX4_readNumber cX4_readNumber 4 (some .boolean) [.ref b0, .int a0, .int a1, .int a2] (xw [(4, b0, f0, s0), (8, b1, f1, s1), (0, b2, f2, s2), (3, b3, f3, s3)] h) (some (.int (b2i x.1))) (xw [(4, b0, f0, s0), (8, b1, f1, x.2.1), (0, b2, f2, s2), (3, b3, f3, x.2.2)] h) := fun x hx => a_meth (ini := false) (y := yX4_readNumber) (by decide +kernel) (fun q => by cases q) (fun _ => Nat.le_of_ble_eq_true rfl) (pX4_readNumber_w ho hq_0_0 hq_0_1 hq_0_2 s0 s1 s2 s3 a0 a1 a2) x hx _ _ ⟨rfl, rfl⟩
end
