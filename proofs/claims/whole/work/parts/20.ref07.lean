section
variable {l : Launch} {n0 S0 : Nat} {mo : Nat} {h : aH}
abbrev MX12_doAt : aM := (cX12_doAt, RX12, 6, none, false)
def X12_doAt_j16 (s : RS) : Option RS :=
  thn (uI s 40 ((s.1 40) + (1 : Int32))) fun s2 =>
  some s2
theorem X12_doAt_j16_ok (hh : mo + 18 ≤ h.2.1) (s : RS) : aS l 2 MX12_doAt n0 S0 (oΦ (fun (x : RS) => (none, rH mo h x))) 16 [(0, .ref mo)] [] (rH mo h s) (X12_doAt_j16 s) := by
  unfold X12_doAt_j16
  refine s_aload_n (pc := 16) 0 dX12_doAt_16 rfl ?_
  refine s_dup (pc := 17) dX12_doAt_17 rfl ?_
  refine rg_434 hh (pc := 18) dX12_doAt_18 rfl ?_
  refine s_iconst (v := 1) (pc := 21) dX12_doAt_21 (by decide) ?_
  refine s_iadd (pc := 22) dX12_doAt_22 ?_
  refine rp_434 hh (pc := 23) dX12_doAt_23 rfl (fun s2 => ?_)
  exact s_vret (pc := 26) dX12_doAt_26 rfl (fun _ _ q => q)
def X12_doAt_x109 (l : Launch) (n0 S0 : Nat) (mo : Nat) (h : aH) (v1 : Int32) (v2 : Int32) (v3 : Int32) (s : RS) : Bool → Option Value → aH → Prop := fun (x : Bool) r h' => aEv l 2 MX12_doAt n0 S0 160 [(0, .ref mo), (2, .int v2), (3, .int v3), (4, .int (b2i x))] [] (rH mo h s) r h'
def X12_doAt_j152 (v1 : Int32) (v2 : Int32) (v3 : Int32) (v5 : Int32) (k0 : Bool) (s : RS) : Option ((Bool × Int32) ⊕ Bool) :=
  thn (v5 + 1) fun x4 =>
  some (.inl (k0, x4))
theorem X12_doAt_j152_ok (hh : mo + 18 ≤ h.2.1) (v1 : Int32) (v2 : Int32) (v3 : Int32) (v5 : Int32) (k0 : Bool) (s : RS) : aS l 2 MX12_doAt n0 S0 (a_LΦ (X12_doAt_x109 l n0 S0 mo h v1 v2 v3 s) l 2 MX12_doAt n0 S0 109 (fun (q : Bool × Int32) => [(0, .ref mo), (1, .int v1), (2, .int v2), (3, .int v3), (4, .int (b2i q.1)), (5, .int q.2)]) (fun _ => []) (fun (q : Bool × Int32) => rH mo h s)) 152 [(0, .ref mo), (1, .int v1), (2, .int v2), (3, .int v3), (5, .int v5)] [.int (b2i k0)] (rH mo h s) (X12_doAt_j152 v1 v2 v3 v5 k0 s) := by
  unfold X12_doAt_j152
  refine s_istore (lv' := [(4, .int (b2i k0)), (0, .ref mo), (1, .int v1), (2, .int v2), (3, .int v3), (5, .int v5)]) (pc := 152) dX12_doAt_152 (by decide) rfl ?_
  refine s_iincT (pc := 154) 5 (lv' := fun x4 => [(5, .int x4), (4, .int (b2i k0)), (0, .ref mo), (1, .int v1), (2, .int v2), (3, .int v3)]) dX12_doAt_154 rfl rfl (by decide) (fun _ => rfl) (fun x4 => ?_)
  refine s_goto (tgt := 109) (pc := 157) dX12_doAt_157 (by decide) ?_
  refine s_sub [2, 3, 4, 5, 1, 0] rfl ?_
  exact s_ev (fun _ _ q => q)
def X12_doAt_j147 (v1 : Int32) (v2 : Int32) (v3 : Int32) (v5 : Int32) (s : RS) : Option ((Bool × Int32) ⊕ Bool) :=
  X12_doAt_j152 v1 v2 v3 v5 true s
theorem X12_doAt_j147_ok (hh : mo + 18 ≤ h.2.1) (v1 : Int32) (v2 : Int32) (v3 : Int32) (v5 : Int32) (s : RS) : aS l 2 MX12_doAt n0 S0 (a_LΦ (X12_doAt_x109 l n0 S0 mo h v1 v2 v3 s) l 2 MX12_doAt n0 S0 109 (fun (q : Bool × Int32) => [(0, .ref mo), (1, .int v1), (2, .int v2), (3, .int v3), (4, .int (b2i q.1)), (5, .int q.2)]) (fun _ => []) (fun (q : Bool × Int32) => rH mo h s)) 147 [(0, .ref mo), (1, .int v1), (2, .int v2), (3, .int v3), (5, .int v5)] [] (rH mo h s) (X12_doAt_j147 v1 v2 v3 v5 s) := by
  unfold X12_doAt_j147
  refine s_iconst (v := 1) (pc := 147) dX12_doAt_147 (by decide) ?_
  refine s_goto (tgt := 152) (pc := 148) dX12_doAt_148 (by decide) ?_
  exact X12_doAt_j152_ok hh v1 v2 v3 v5 true s
def X12_doAt_j151 (v1 : Int32) (v2 : Int32) (v3 : Int32) (v5 : Int32) (s : RS) : Option ((Bool × Int32) ⊕ Bool) :=
  X12_doAt_j152 v1 v2 v3 v5 false s
theorem X12_doAt_j151_ok (hh : mo + 18 ≤ h.2.1) (v1 : Int32) (v2 : Int32) (v3 : Int32) (v5 : Int32) (s : RS) : aS l 2 MX12_doAt n0 S0 (a_LΦ (X12_doAt_x109 l n0 S0 mo h v1 v2 v3 s) l 2 MX12_doAt n0 S0 109 (fun (q : Bool × Int32) => [(0, .ref mo), (1, .int v1), (2, .int v2), (3, .int v3), (4, .int (b2i q.1)), (5, .int q.2)]) (fun _ => []) (fun (q : Bool × Int32) => rH mo h s)) 151 [(0, .ref mo), (1, .int v1), (2, .int v2), (3, .int v3), (5, .int v5)] [] (rH mo h s) (X12_doAt_j151 v1 v2 v3 v5 s) := by
  unfold X12_doAt_j151
  refine s_iconst (v := 0) (pc := 151) dX12_doAt_151 (by decide) ?_
  exact X12_doAt_j152_ok hh v1 v2 v3 v5 false s
def X12_doAt_b109 (v1 : Int32) (v2 : Int32) (v3 : Int32) (v4 : Bool) (v5 : Int32) (s : RS) : Option ((Bool × Int32) ⊕ Bool) :=
  g_in (1 : Int32) 1800 (
  if (s.2.2.1 4 (1 : Int32).toNatClampNeg) ≤ v5 then
    some (.inr v4)
  else
    if v4 = true then
      X12_doAt_j147 v1 v2 v3 v5 s
    else
      if v1 = (3 : Int32) then
        g_in ((114 : Int32) + v5) 1800 (
        (pX12_hasIn (s.2.2.1 4 ((114 : Int32) + v5).toNatClampNeg) v2).bind fun x5 =>
        if x5 = true then
          X12_doAt_j147 v1 v2 v3 v5 s
        else
          X12_doAt_j151 v1 v2 v3 v5 s)
      else
        X12_doAt_j151 v1 v2 v3 v5 s)
theorem X12_doAt_b109_ok (hh : mo + 18 ≤ h.2.1) (v1 : Int32) (v2 : Int32) (v3 : Int32) (v4 : Bool) (v5 : Int32) (s : RS) : aS l 2 MX12_doAt n0 S0 (a_LΦ (X12_doAt_x109 l n0 S0 mo h v1 v2 v3 s) l 2 MX12_doAt n0 S0 109 (fun (q : Bool × Int32) => [(0, .ref mo), (1, .int v1), (2, .int v2), (3, .int v3), (4, .int (b2i q.1)), (5, .int q.2)]) (fun _ => []) (fun (q : Bool × Int32) => rH mo h s)) 109 [(0, .ref mo), (1, .int v1), (2, .int v2), (3, .int v3), (4, .int (b2i v4)), (5, .int v5)] [] (rH mo h s) (X12_doAt_b109 v1 v2 v3 v4 v5 s) := by
  unfold X12_doAt_b109
  refine s_iload (pc := 109) 5 dX12_doAt_109 rfl ?_
  refine s_aload_n (pc := 111) 0 dX12_doAt_111 rfl ?_
  refine rg_35 hh (pc := 112) dX12_doAt_112 rfl ?_
  refine s_iconst (v := 1) (pc := 115) dX12_doAt_115 (by decide) ?_
  refine rl_4 hh (pc := 116) dX12_doAt_116 ?_
  refine s_icmp_ge (tgt := 160) (pc := 117) dX12_doAt_117 (by decide) (fun _ => ?_) (fun _ => ?_)
  · refine s_sub [0, 2, 3, 4] rfl ?_
    exact s_ev (fun _ _ q => q)
  · refine s_iload (pc := 120) 4 dX12_doAt_120 rfl ?_
    refine s_if_neB (tgt := 147) (pc := 122) dX12_doAt_122 (by decide) (fun _ => ?_) (fun _ => ?_)
    · refine s_sub [0, 1, 2, 3, 5] rfl ?_
      exact X12_doAt_j147_ok hh v1 v2 v3 v5 s
    · refine s_iload_n (pc := 125) 1 dX12_doAt_125 rfl ?_
      refine s_iconst (v := 3) (pc := 126) dX12_doAt_126 (by decide) ?_
      refine s_icmp_ne (tgt := 151) (pc := 127) dX12_doAt_127 (by decide) (fun _ => ?_) (fun _ => ?_)
      · refine s_aload_n (pc := 130) 0 dX12_doAt_130 rfl ?_
        refine rg_35 hh (pc := 131) dX12_doAt_131 rfl ?_
        refine s_bipush (v := 114) (pc := 134) dX12_doAt_134 (by decide) ?_
        refine s_iload (pc := 136) 5 dX12_doAt_136 rfl ?_
        refine s_iadd (pc := 138) dX12_doAt_138 ?_
        refine rl_4 hh (pc := 139) dX12_doAt_139 ?_
        refine s_iload_n (pc := 140) 2 dX12_doAt_140 rfl ?_
        refine s_callS (M := MX12_doAt) (As := [.int (s.2.2.1 4 ((114 : Int32) + v5).toNatClampNeg), .int v2]) (st := []) (Ψ := fun (x : Bool) => (some (.int (b2i x)), rH mo h s)) cs_X12_302 (by decide) (pc := 141) dX12_doAt_141 rfl (Nat.le_of_ble_eq_true rfl) (fun x hx => pX12_hasIn_ok (s.2.2.1 4 ((114 : Int32) + v5).toNatClampNeg) v2 x hx) rfl (fun x5 _ => ?_)
        refine s_if_eqB (tgt := 151) (pc := 144) dX12_doAt_144 (by decide) (fun _ => ?_) (fun _ => ?_)
        · refine s_sub [0, 1, 2, 3, 5] rfl ?_
          exact X12_doAt_j147_ok hh v1 v2 v3 v5 s
        · refine s_sub [0, 1, 2, 3, 5] rfl ?_
          exact X12_doAt_j151_ok hh v1 v2 v3 v5 s
      · refine s_sub [0, 1, 2, 3, 5] rfl ?_
        exact X12_doAt_j151_ok hh v1 v2 v3 v5 s
def X12_doAt_j104 (v1 : Int32) (v2 : Int32) (v3 : Int32) (k0 : Bool) (s : RS) : Option RS :=
  (a_loop (fun (q : Bool × Int32) => X12_doAt_b109 v1 v2 v3 q.1 q.2 s) FU (k0, (0 : Int32))).bind fun (t6 : Bool) =>
    if t6 = true then
      g_in ((114 : Int32) + v3) 1800 (
      (pX12_hangsOn s (0 : Int32) v2).bind fun x8 =>
      g_in ((114 : Int32) + v3) 1800 (thn (uA s 4 (upd (s.2.2.1 4) ((114 : Int32) + v3).toNatClampNeg ((s.2.2.1 4 ((114 : Int32) + v3).toNatClampNeg) ||| (((1 : Int32) <<< (v2 &&& 31)) ||| x8)))) fun s9 =>
      some s9))
    else
      thn (uI s 40 ((s.1 40) + (1 : Int32))) fun s7 =>
      some s7
theorem X12_doAt_j104_ok (hh : mo + 18 ≤ h.2.1) (v1 : Int32) (v2 : Int32) (v3 : Int32) (k0 : Bool) (s : RS) : aS l 2 MX12_doAt n0 S0 (oΦ (fun (x : RS) => (none, rH mo h x))) 104 [(0, .ref mo), (1, .int v1), (2, .int v2), (3, .int v3)] [.int (b2i k0)] (rH mo h s) (X12_doAt_j104 v1 v2 v3 k0 s) := by
  unfold X12_doAt_j104
  refine s_istore (lv' := [(4, .int (b2i k0)), (0, .ref mo), (1, .int v1), (2, .int v2), (3, .int v3)]) (pc := 104) dX12_doAt_104 (by decide) rfl ?_
  refine s_iconst (v := 0) (pc := 106) dX12_doAt_106 (by decide) ?_
  refine s_istore (lv' := [(5, .int 0), (4, .int (b2i k0)), (0, .ref mo), (1, .int v1), (2, .int v2), (3, .int v3)]) (pc := 107) dX12_doAt_107 (by decide) rfl ?_
  refine s_bind (Ψ := X12_doAt_x109 l n0 S0 mo h v1 v2 v3 s) ?_ ?_
  · refine s_sub [2, 3, 4, 5, 1, 0] rfl ?_
    exact s_loop (lvf := fun (q : Bool × Int32) => [(0, .ref mo), (1, .int v1), (2, .int v2), (3, .int v3), (4, .int (b2i q.1)), (5, .int q.2)]) (stf := fun _ => []) (hf := fun (q : Bool × Int32) => rH mo h s) (fun q => X12_doAt_b109_ok hh v1 v2 v3 q.1 q.2 s) FU (k0, (0 : Int32))
  · intro t6 z r h' hz hr
    refine (?_ : aS l 2 MX12_doAt n0 S0 (oΦ (fun (x : RS) => (none, rH mo h x))) 160 [(0, .ref mo), (2, .int v2), (3, .int v3), (4, .int (b2i t6))] [] (rH mo h s) _) z hz r h' hr
    refine s_iload (pc := 160) 3 dX12_doAt_160 rfl ?_
    refine s_if_eqB (tgt := 190) (pc := 162) dX12_doAt_162 (by decide) (fun _ => ?_) (fun _ => ?_)
    · refine s_aload_n (pc := 165) 0 dX12_doAt_165 rfl ?_
      refine rg_35 hh (pc := 166) dX12_doAt_166 rfl ?_
      refine s_bipush (v := 114) (pc := 169) dX12_doAt_169 (by decide) ?_
      refine s_iload_n (pc := 171) 2 dX12_doAt_171 rfl ?_
      refine s_iadd (pc := 172) dX12_doAt_172 ?_
      refine s_dup2_11 (pc := 173) dX12_doAt_173 rfl rfl ?_
      refine rl_4 hh (pc := 174) dX12_doAt_174 ?_
      refine s_iconst (v := 1) (pc := 175) dX12_doAt_175 (by decide) ?_
      refine s_iload_n (pc := 176) 1 dX12_doAt_176 rfl ?_
      refine s_ishl (pc := 177) dX12_doAt_177 ?_
      refine s_aload_n (pc := 178) 0 dX12_doAt_178 rfl ?_
      refine s_iconst (v := 0) (pc := 179) dX12_doAt_179 (by decide) ?_
      refine s_iload_n (pc := 180) 1 dX12_doAt_180 rfl ?_
      refine s_callV (M := MX12_doAt) (As := [.int 0, .int v2]) (st := [.int ((1 : Int32) <<< (v2 &&& 31)), .int (s.2.2.1 4 ((114 : Int32) + v3).toNatClampNeg), .int ((114 : Int32) + v3), .ref (mo + 5)]) (Ψ := fun (x : Int32) => (some (.int x), rH mo h s)) cv_X12_249 (by decide) (pc := 181) dX12_doAt_181 r_0 (r_lt (k := 0) hh (by decide)) rfl (Nat.le_of_ble_eq_true rfl) (fun x hx => pX12_hangsOn_ok hh s (0 : Int32) v2 x hx) rfl (fun x8 _ => ?_)
      refine s_ior (pc := 184) dX12_doAt_184 ?_
      refine s_ior (pc := 185) dX12_doAt_185 ?_
      refine rs_4 hh (pc := 186) dX12_doAt_186 (fun s9 => ?_)
      refine s_goto (tgt := 200) (pc := 187) dX12_doAt_187 (by decide) ?_
      exact s_vret (pc := 200) dX12_doAt_200 rfl (fun _ _ q => q)
    · refine s_aload_n (pc := 190) 0 dX12_doAt_190 rfl ?_
      refine s_dup (pc := 191) dX12_doAt_191 rfl ?_
      refine rg_434 hh (pc := 192) dX12_doAt_192 rfl ?_
      refine s_iconst (v := 1) (pc := 195) dX12_doAt_195 (by decide) ?_
      refine s_iadd (pc := 196) dX12_doAt_196 ?_
      refine rp_434 hh (pc := 197) dX12_doAt_197 rfl (fun s7 => ?_)
      exact s_vret (pc := 200) dX12_doAt_200 rfl (fun _ _ q => q)
def X12_doAt_j103 (v1 : Int32) (v2 : Int32) (v3 : Int32) (s : RS) : Option RS :=
  X12_doAt_j104 v1 v2 v3 false s
theorem X12_doAt_j103_ok (hh : mo + 18 ≤ h.2.1) (v1 : Int32) (v2 : Int32) (v3 : Int32) (s : RS) : aS l 2 MX12_doAt n0 S0 (oΦ (fun (x : RS) => (none, rH mo h x))) 103 [(0, .ref mo), (1, .int v1), (2, .int v2), (3, .int v3)] [] (rH mo h s) (X12_doAt_j103 v1 v2 v3 s) := by
  unfold X12_doAt_j103
  refine s_iconst (v := 0) (pc := 103) dX12_doAt_103 (by decide) ?_
  exact X12_doAt_j104_ok hh v1 v2 v3 false s
def pX12_doAt (s : RS) (a0 : Int32) (a1 : Int32) (a2 : Int32) : Option RS :=
  (pX12_isChange s a1).bind fun x1 =>
  if x1 = true then
    (pX12_isIsland s a2).bind fun x3 =>
    if x3 = true then
      if a0 = (2 : Int32) then
        g_in ((114 : Int32) + a2) 1800 (
        (pX12_hasIn (s.2.2.1 4 ((114 : Int32) + a2).toNatClampNeg) a1).bind fun x11 =>
        if x11 = true then
          g_in ((114 : Int32) + a2) 1800 (
          (pX12_hangers s a1).bind fun x12 =>
          g_in ((114 : Int32) + a2) 1800 (thn (uA s 4 (upd (s.2.2.1 4) ((114 : Int32) + a2).toNatClampNeg ((s.2.2.1 4 ((114 : Int32) + a2).toNatClampNeg) &&& ((((1 : Int32) <<< (a1 &&& 31)) ^^^ (-1 : Int32)) &&& (x12 ^^^ (-1 : Int32)))))) fun s13 =>
          some s13))
        else
          some s)
      else
        if a0 = 0 then
          (pX12_hangsOn s (0 : Int32) a1).bind fun x10 =>
          g_in ((114 : Int32) + a2) 1800 (
          if (x10 &&& ((s.2.2.1 4 ((114 : Int32) + a2).toNatClampNeg) ^^^ (-1 : Int32))) = 0 then
            X12_doAt_j104 a0 a1 a2 true s
          else
            X12_doAt_j103 a0 a1 a2 s)
        else
          X12_doAt_j103 a0 a1 a2 s
    else
      X12_doAt_j16 s
  else
    X12_doAt_j16 s
theorem pX12_doAt_w (hh : mo + 18 ≤ h.2.1) (s : RS) (a0 : Int32) (a1 : Int32) (a2 : Int32) : aS l 2 MX12_doAt n0 S0 (oΦ (fun (x : RS) => (none, rH mo h x))) 0 [(0, .ref mo), (1, .int a0), (2, .int a1), (3, .int a2)] [] (rH mo h s) (pX12_doAt s a0 a1 a2) := by
  unfold pX12_doAt
  refine s_aload_n (pc := 0) 0 dX12_doAt_0 rfl ?_
  refine s_iload_n (pc := 1) 2 dX12_doAt_1 rfl ?_
  refine s_callV (M := MX12_doAt) (As := [.int a1]) (st := []) (Ψ := fun (x : Bool) => (some (.int (b2i x)), rH mo h s)) cv_X12_311 (by decide) (pc := 2) dX12_doAt_2 r_0 (r_lt (k := 0) hh (by decide)) rfl (Nat.le_of_ble_eq_true rfl) (fun x hx => pX12_isChange_ok hh s a1 x hx) rfl (fun x1 _ => ?_)
  refine s_if_eqB (tgt := 16) (pc := 5) dX12_doAt_5 (by decide) (fun _ => ?_) (fun _ => ?_)
  · refine s_aload_n (pc := 8) 0 dX12_doAt_8 rfl ?_
    refine s_iload_n (pc := 9) 3 dX12_doAt_9 rfl ?_
    refine s_callV (M := MX12_doAt) (As := [.int a2]) (st := []) (Ψ := fun (x : Bool) => (some (.int (b2i x)), rH mo h s)) cv_X12_403 (by decide) (pc := 10) dX12_doAt_10 r_0 (r_lt (k := 0) hh (by decide)) rfl (Nat.le_of_ble_eq_true rfl) (fun x hx => pX12_isIsland_ok hh s a2 x hx) rfl (fun x3 _ => ?_)
    refine s_if_neB (tgt := 27) (pc := 13) dX12_doAt_13 (by decide) (fun _ => ?_) (fun _ => ?_)
    · refine s_iload_n (pc := 27) 1 dX12_doAt_27 rfl ?_
      refine s_iconst (v := 2) (pc := 28) dX12_doAt_28 (by decide) ?_
      refine s_icmp_ne (tgt := 74) (pc := 29) dX12_doAt_29 (by decide) (fun _ => ?_) (fun _ => ?_)
      · refine s_aload_n (pc := 32) 0 dX12_doAt_32 rfl ?_
        refine rg_35 hh (pc := 33) dX12_doAt_33 rfl ?_
        refine s_bipush (v := 114) (pc := 36) dX12_doAt_36 (by decide) ?_
        refine s_iload_n (pc := 38) 3 dX12_doAt_38 rfl ?_
        refine s_iadd (pc := 39) dX12_doAt_39 ?_
        refine rl_4 hh (pc := 40) dX12_doAt_40 ?_
        refine s_iload_n (pc := 41) 2 dX12_doAt_41 rfl ?_
        refine s_callS (M := MX12_doAt) (As := [.int (s.2.2.1 4 ((114 : Int32) + a2).toNatClampNeg), .int a1]) (st := []) (Ψ := fun (x : Bool) => (some (.int (b2i x)), rH mo h s)) cs_X12_302 (by decide) (pc := 42) dX12_doAt_42 rfl (Nat.le_of_ble_eq_true rfl) (fun x hx => pX12_hasIn_ok (s.2.2.1 4 ((114 : Int32) + a2).toNatClampNeg) a1 x hx) rfl (fun x11 _ => ?_)
        refine s_if_eqB (tgt := 73) (pc := 45) dX12_doAt_45 (by decide) (fun _ => ?_) (fun _ => ?_)
        · refine s_aload_n (pc := 48) 0 dX12_doAt_48 rfl ?_
          refine rg_35 hh (pc := 49) dX12_doAt_49 rfl ?_
          refine s_bipush (v := 114) (pc := 52) dX12_doAt_52 (by decide) ?_
          refine s_iload_n (pc := 54) 3 dX12_doAt_54 rfl ?_
          refine s_iadd (pc := 55) dX12_doAt_55 ?_
          refine s_dup2_11 (pc := 56) dX12_doAt_56 rfl rfl ?_
          refine rl_4 hh (pc := 57) dX12_doAt_57 ?_
          refine s_iconst (v := 1) (pc := 58) dX12_doAt_58 (by decide) ?_
          refine s_iload_n (pc := 59) 2 dX12_doAt_59 rfl ?_
          refine s_ishl (pc := 60) dX12_doAt_60 ?_
          refine s_iconst (v := (-1)) (pc := 61) dX12_doAt_61 (by decide) ?_
          refine s_ixor (pc := 62) dX12_doAt_62 ?_
          refine s_aload_n (pc := 63) 0 dX12_doAt_63 rfl ?_
          refine s_iload_n (pc := 64) 2 dX12_doAt_64 rfl ?_
          refine s_callV (M := MX12_doAt) (As := [.int a1]) (st := [.int (((1 : Int32) <<< (a1 &&& 31)) ^^^ (-1 : Int32)), .int (s.2.2.1 4 ((114 : Int32) + a2).toNatClampNeg), .int ((114 : Int32) + a2), .ref (mo + 5)]) (Ψ := fun (x : Int32) => (some (.int x), rH mo h s)) cv_X12_316 (by decide) (pc := 65) dX12_doAt_65 r_0 (r_lt (k := 0) hh (by decide)) rfl (Nat.le_of_ble_eq_true rfl) (fun x hx => pX12_hangers_ok hh s a1 x hx) rfl (fun x12 _ => ?_)
          refine s_iconst (v := (-1)) (pc := 68) dX12_doAt_68 (by decide) ?_
          refine s_ixor (pc := 69) dX12_doAt_69 ?_
          refine s_iand (pc := 70) dX12_doAt_70 ?_
          refine s_iand (pc := 71) dX12_doAt_71 ?_
          refine rs_4 hh (pc := 72) dX12_doAt_72 (fun s13 => ?_)
          exact s_vret (pc := 73) dX12_doAt_73 rfl (fun _ _ q => q)
        · exact s_vret (pc := 73) dX12_doAt_73 rfl (fun _ _ q => q)
      · refine s_iload_n (pc := 74) 1 dX12_doAt_74 rfl ?_
        refine s_if_ne (tgt := 103) (pc := 75) dX12_doAt_75 (by decide) (fun _ => ?_) (fun _ => ?_)
        · refine s_aload_n (pc := 78) 0 dX12_doAt_78 rfl ?_
          refine s_iconst (v := 0) (pc := 79) dX12_doAt_79 (by decide) ?_
          refine s_iload_n (pc := 80) 2 dX12_doAt_80 rfl ?_
          refine s_callV (M := MX12_doAt) (As := [.int 0, .int a1]) (st := []) (Ψ := fun (x : Int32) => (some (.int x), rH mo h s)) cv_X12_249 (by decide) (pc := 81) dX12_doAt_81 r_0 (r_lt (k := 0) hh (by decide)) rfl (Nat.le_of_ble_eq_true rfl) (fun x hx => pX12_hangsOn_ok hh s (0 : Int32) a1 x hx) rfl (fun x10 _ => ?_)
          refine s_aload_n (pc := 84) 0 dX12_doAt_84 rfl ?_
          refine rg_35 hh (pc := 85) dX12_doAt_85 rfl ?_
          refine s_bipush (v := 114) (pc := 88) dX12_doAt_88 (by decide) ?_
          refine s_iload_n (pc := 90) 3 dX12_doAt_90 rfl ?_
          refine s_iadd (pc := 91) dX12_doAt_91 ?_
          refine rl_4 hh (pc := 92) dX12_doAt_92 ?_
          refine s_iconst (v := (-1)) (pc := 93) dX12_doAt_93 (by decide) ?_
          refine s_ixor (pc := 94) dX12_doAt_94 ?_
          refine s_iand (pc := 95) dX12_doAt_95 ?_
          refine s_if_ne (tgt := 103) (pc := 96) dX12_doAt_96 (by decide) (fun _ => ?_) (fun _ => ?_)
          · refine s_iconst (v := 1) (pc := 99) dX12_doAt_99 (by decide) ?_
            refine s_goto (tgt := 104) (pc := 100) dX12_doAt_100 (by decide) ?_
            exact X12_doAt_j104_ok hh a0 a1 a2 true s
          · exact X12_doAt_j103_ok hh a0 a1 a2 s
        · exact X12_doAt_j103_ok hh a0 a1 a2 s
    · refine s_sub [0] rfl ?_
      exact X12_doAt_j16_ok hh s
  · refine s_sub [0] rfl ?_
    exact X12_doAt_j16_ok hh s
theorem pX12_doAt_ok (hh : mo + 18 ≤ h.2.1) (s : RS) (a0 : Int32) (a1 : Int32) (a2 : Int32) : ∀ x, pX12_doAt s a0 a1 a2 = some x → aMet l 2 yX12_doAt cX12_doAt 6 none [.ref mo, .int a0, .int a1, .int a2] (rH mo h s) none (rH mo h x) := fun x hx => a_meth (ini := false) (y := yX12_doAt) (by decide +kernel) (fun q => by cases q) (fun _ => Nat.le_of_ble_eq_true rfl) (pX12_doAt_w hh s a0 a1 a2) x hx _ _ ⟨rfl, rfl⟩
end
section
variable {l : Launch} {n0 S0 : Nat} {mo : Nat} {h : aH}
abbrev MX12_isSo : aM := (cX12_isSo, RX12, 3, (some .boolean), false)
def pX12_isSo (s : RS) (a0 : Int32) : Option Bool :=
  g_in (a0 + (5 : Int32)) 1800 (
  thn (s.2.2.1 4 (a0 + (5 : Int32)).toNatClampNeg) fun x1 =>
  if x1 = (2 : Int32) then
    g_in (a0 + (1 : Int32)) 1800 (
    if (s.1 39) < (s.2.2.1 4 (a0 + (1 : Int32)).toNatClampNeg) then
      some false
    else
      some true)
  else
    g_in (a0 + (1 : Int32)) 1800 (
    (pX12_isIsland s (s.2.2.1 4 (a0 + (1 : Int32)).toNatClampNeg)).bind fun x2 =>
    if x2 = true then
      if x1 = (1 : Int32) then
        g_in (a0 + (1 : Int32)) 1800 (
        g_in ((114 : Int32) + (s.2.2.1 4 (a0 + (1 : Int32)).toNatClampNeg)) 1800 (
        (pX12_isQuiet s (s.2.2.1 4 ((114 : Int32) + (s.2.2.1 4 (a0 + (1 : Int32)).toNatClampNeg)).toNatClampNeg)).bind fun x5 =>
        some x5))
      else
        g_in (a0 + (2 : Int32)) 1800 (
        (pX12_isChange s (s.2.2.1 4 (a0 + (2 : Int32)).toNatClampNeg)).bind fun x3 =>
        if x3 = true then
          g_in (a0 + (1 : Int32)) 1800 (
          g_in ((114 : Int32) + (s.2.2.1 4 (a0 + (1 : Int32)).toNatClampNeg)) 1800 (
          g_in (a0 + (2 : Int32)) 1800 (
          (pX12_hasIn (s.2.2.1 4 ((114 : Int32) + (s.2.2.1 4 (a0 + (1 : Int32)).toNatClampNeg)).toNatClampNeg) (s.2.2.1 4 (a0 + (2 : Int32)).toNatClampNeg)).bind fun x4 =>
          if x4 = true then
            some true
          else
            some false)))
        else
          some false)
    else
      some false))
theorem pX12_isSo_w (hh : mo + 18 ≤ h.2.1) (s : RS) (a0 : Int32) : aS l 7 MX12_isSo n0 S0 (oΦ (fun (x : Bool) => (some (.int (b2i x)), rH mo h s))) 0 [(0, .ref mo), (1, .int a0)] [] (rH mo h s) (pX12_isSo s a0) := by
  unfold pX12_isSo
  refine s_aload_n (pc := 0) 0 dX12_isSo_0 rfl ?_
  refine rg_35 hh (pc := 1) dX12_isSo_1 rfl ?_
  refine s_iload_n (pc := 4) 1 dX12_isSo_4 rfl ?_
  refine s_iconst (v := 5) (pc := 5) dX12_isSo_5 (by decide) ?_
  refine s_iadd (pc := 6) dX12_isSo_6 ?_
  refine rl_4 hh (pc := 7) dX12_isSo_7 ?_
  refine s_istore_nT (lv' := fun x1 => [(2, .int x1), (0, .ref mo), (1, .int a0)]) (pc := 8) dX12_isSo_8 (by decide) (fun _ => rfl) (fun x1 => ?_)
  refine s_iload_n (pc := 9) 0 dX12_isSo_9 rfl ?_
  refine s_iconst (v := 2) (pc := 10) dX12_isSo_10 (by decide) ?_
  refine s_icmp_ne (tgt := 35) (pc := 11) dX12_isSo_11 (by decide) (fun _ => ?_) (fun _ => ?_)
  · refine s_aload_n (pc := 14) 1 dX12_isSo_14 rfl ?_
    refine rg_443 hh (pc := 15) dX12_isSo_15 rfl ?_
    refine s_aload_n (pc := 18) 1 dX12_isSo_18 rfl ?_
    refine rg_35 hh (pc := 19) dX12_isSo_19 rfl ?_
    refine s_iload_n (pc := 22) 2 dX12_isSo_22 rfl ?_
    refine s_iconst (v := 1) (pc := 23) dX12_isSo_23 (by decide) ?_
    refine s_iadd (pc := 24) dX12_isSo_24 ?_
    refine rl_4 hh (pc := 25) dX12_isSo_25 ?_
    refine s_icmp_lt (tgt := 33) (pc := 26) dX12_isSo_26 (by decide) (fun _ => ?_) (fun _ => ?_)
    · refine s_iconst (v := 0) (pc := 33) dX12_isSo_33 (by decide) ?_
      exact s_zretB (b := false) (pc := 34) dX12_isSo_34 rfl (fun _ _ q => q)
    · refine s_iconst (v := 1) (pc := 29) dX12_isSo_29 (by decide) ?_
      refine s_goto (tgt := 34) (pc := 30) dX12_isSo_30 (by decide) ?_
      exact s_zretB (b := true) (pc := 34) dX12_isSo_34 rfl (fun _ _ q => q)
  · refine s_aload_n (pc := 35) 1 dX12_isSo_35 rfl ?_
    refine s_aload_n (pc := 36) 1 dX12_isSo_36 rfl ?_
    refine rg_35 hh (pc := 37) dX12_isSo_37 rfl ?_
    refine s_iload_n (pc := 40) 2 dX12_isSo_40 rfl ?_
    refine s_iconst (v := 1) (pc := 41) dX12_isSo_41 (by decide) ?_
    refine s_iadd (pc := 42) dX12_isSo_42 ?_
    refine rl_4 hh (pc := 43) dX12_isSo_43 ?_
    refine s_callV (M := MX12_isSo) (As := [.int (s.2.2.1 4 (a0 + (1 : Int32)).toNatClampNeg)]) (st := []) (Ψ := fun (x : Bool) => (some (.int (b2i x)), rH mo h s)) cv_X12_403 (by decide) (pc := 44) dX12_isSo_44 r_0 (r_lt (k := 0) hh (by decide)) rfl (Nat.le_of_ble_eq_true rfl) (fun x hx => pX12_isIsland_ok hh s (s.2.2.1 4 (a0 + (1 : Int32)).toNatClampNeg) x hx) rfl (fun x2 _ => ?_)
    refine s_if_neB (tgt := 52) (pc := 47) dX12_isSo_47 (by decide) (fun _ => ?_) (fun _ => ?_)
    · refine s_iload_n (pc := 52) 0 dX12_isSo_52 rfl ?_
      refine s_iconst (v := 1) (pc := 53) dX12_isSo_53 (by decide) ?_
      refine s_icmp_ne (tgt := 78) (pc := 54) dX12_isSo_54 (by decide) (fun _ => ?_) (fun _ => ?_)
      · refine s_aload_n (pc := 57) 1 dX12_isSo_57 rfl ?_
        refine s_aload_n (pc := 58) 1 dX12_isSo_58 rfl ?_
        refine rg_35 hh (pc := 59) dX12_isSo_59 rfl ?_
        refine s_bipush (v := 114) (pc := 62) dX12_isSo_62 (by decide) ?_
        refine s_aload_n (pc := 64) 1 dX12_isSo_64 rfl ?_
        refine rg_35 hh (pc := 65) dX12_isSo_65 rfl ?_
        refine s_iload_n (pc := 68) 2 dX12_isSo_68 rfl ?_
        refine s_iconst (v := 1) (pc := 69) dX12_isSo_69 (by decide) ?_
        refine s_iadd (pc := 70) dX12_isSo_70 ?_
        refine rl_4 hh (pc := 71) dX12_isSo_71 ?_
        refine s_iadd (pc := 72) dX12_isSo_72 ?_
        refine rl_4 hh (pc := 73) dX12_isSo_73 ?_
        refine s_callV (M := MX12_isSo) (As := [.int (s.2.2.1 4 ((114 : Int32) + (s.2.2.1 4 (a0 + (1 : Int32)).toNatClampNeg)).toNatClampNeg)]) (st := []) (Ψ := fun (x : Bool) => (some (.int (b2i x)), rH mo h s)) cv_X12_374 (by decide) (pc := 74) dX12_isSo_74 r_0 (r_lt (k := 0) hh (by decide)) rfl (Nat.le_of_ble_eq_true rfl) (fun x hx => pX12_isQuiet_ok hh s (s.2.2.1 4 ((114 : Int32) + (s.2.2.1 4 (a0 + (1 : Int32)).toNatClampNeg)).toNatClampNeg) x hx) rfl (fun x5 _ => ?_)
        exact s_zretB (b := x5) (pc := 77) dX12_isSo_77 rfl (fun _ _ q => q)
      · refine s_aload_n (pc := 78) 1 dX12_isSo_78 rfl ?_
        refine s_aload_n (pc := 79) 1 dX12_isSo_79 rfl ?_
        refine rg_35 hh (pc := 80) dX12_isSo_80 rfl ?_
        refine s_iload_n (pc := 83) 2 dX12_isSo_83 rfl ?_
        refine s_iconst (v := 2) (pc := 84) dX12_isSo_84 (by decide) ?_
        refine s_iadd (pc := 85) dX12_isSo_85 ?_
        refine rl_4 hh (pc := 86) dX12_isSo_86 ?_
        refine s_callV (M := MX12_isSo) (As := [.int (s.2.2.1 4 (a0 + (2 : Int32)).toNatClampNeg)]) (st := []) (Ψ := fun (x : Bool) => (some (.int (b2i x)), rH mo h s)) cv_X12_311 (by decide) (pc := 87) dX12_isSo_87 r_0 (r_lt (k := 0) hh (by decide)) rfl (Nat.le_of_ble_eq_true rfl) (fun x hx => pX12_isChange_ok hh s (s.2.2.1 4 (a0 + (2 : Int32)).toNatClampNeg) x hx) rfl (fun x3 _ => ?_)
        refine s_if_eqB (tgt := 127) (pc := 90) dX12_isSo_90 (by decide) (fun _ => ?_) (fun _ => ?_)
        · refine s_aload_n (pc := 93) 1 dX12_isSo_93 rfl ?_
          refine rg_35 hh (pc := 94) dX12_isSo_94 rfl ?_
          refine s_bipush (v := 114) (pc := 97) dX12_isSo_97 (by decide) ?_
          refine s_aload_n (pc := 99) 1 dX12_isSo_99 rfl ?_
          refine rg_35 hh (pc := 100) dX12_isSo_100 rfl ?_
          refine s_iload_n (pc := 103) 2 dX12_isSo_103 rfl ?_
          refine s_iconst (v := 1) (pc := 104) dX12_isSo_104 (by decide) ?_
          refine s_iadd (pc := 105) dX12_isSo_105 ?_
          refine rl_4 hh (pc := 106) dX12_isSo_106 ?_
          refine s_iadd (pc := 107) dX12_isSo_107 ?_
          refine rl_4 hh (pc := 108) dX12_isSo_108 ?_
          refine s_aload_n (pc := 109) 1 dX12_isSo_109 rfl ?_
          refine rg_35 hh (pc := 110) dX12_isSo_110 rfl ?_
          refine s_iload_n (pc := 113) 2 dX12_isSo_113 rfl ?_
          refine s_iconst (v := 2) (pc := 114) dX12_isSo_114 (by decide) ?_
          refine s_iadd (pc := 115) dX12_isSo_115 ?_
          refine rl_4 hh (pc := 116) dX12_isSo_116 ?_
          refine s_callS (M := MX12_isSo) (As := [.int (s.2.2.1 4 ((114 : Int32) + (s.2.2.1 4 (a0 + (1 : Int32)).toNatClampNeg)).toNatClampNeg), .int (s.2.2.1 4 (a0 + (2 : Int32)).toNatClampNeg)]) (st := []) (Ψ := fun (x : Bool) => (some (.int (b2i x)), rH mo h s)) cs_X12_302 (by decide) (pc := 117) dX12_isSo_117 rfl (Nat.le_of_ble_eq_true rfl) (fun x hx => pX12_hasIn_ok (s.2.2.1 4 ((114 : Int32) + (s.2.2.1 4 (a0 + (1 : Int32)).toNatClampNeg)).toNatClampNeg) (s.2.2.1 4 (a0 + (2 : Int32)).toNatClampNeg) x hx) rfl (fun x4 _ => ?_)
          refine s_if_eqB (tgt := 127) (pc := 120) dX12_isSo_120 (by decide) (fun _ => ?_) (fun _ => ?_)
          · refine s_iconst (v := 1) (pc := 123) dX12_isSo_123 (by decide) ?_
            refine s_goto (tgt := 128) (pc := 124) dX12_isSo_124 (by decide) ?_
            exact s_zretB (b := true) (pc := 128) dX12_isSo_128 rfl (fun _ _ q => q)
          · refine s_iconst (v := 0) (pc := 127) dX12_isSo_127 (by decide) ?_
            exact s_zretB (b := false) (pc := 128) dX12_isSo_128 rfl (fun _ _ q => q)
        · refine s_iconst (v := 0) (pc := 127) dX12_isSo_127 (by decide) ?_
          exact s_zretB (b := false) (pc := 128) dX12_isSo_128 rfl (fun _ _ q => q)
    · refine s_iconst (v := 0) (pc := 50) dX12_isSo_50 (by decide) ?_
      exact s_zretB (b := false) (pc := 51) dX12_isSo_51 rfl (fun _ _ q => q)
theorem pX12_isSo_ok (hh : mo + 18 ≤ h.2.1) (s : RS) (a0 : Int32) : ∀ x, pX12_isSo s a0 = some x → aMet l 7 yX12_isSo cX12_isSo 3 (some .boolean) [.ref mo, .int a0] (rH mo h s) (some (.int (b2i x))) (rH mo h s) := fun x hx => a_meth (ini := false) (y := yX12_isSo) (by decide +kernel) (fun q => by cases q) (fun _ => Nat.le_of_ble_eq_true rfl) (pX12_isSo_w hh s a0) x hx _ _ ⟨rfl, rfl⟩
end
section
variable {l : Launch} {n0 S0 : Nat} {mo : Nat} {h : aH} {dr : Nat}
abbrev MX12_doAll : aM := (cX12_doAll, RX12, 4, none, false)
def X12_doAll_x2 (l : Launch) (n0 S0 : Nat) (dr : Nat) (mo : Nat) (h : aH) (v2 : Int32) : RS → Option Value → aH → Prop := fun (x : RS) r h' => aEv l (dr + 1) MX12_doAll n0 S0 39 [] [] (rH mo h x) r h'
def X12_doAll_b2 (rc : RS → Int32 → Option RS) (v2 : Int32) (v3 : Int32) (s : RS) : Option ((Int32 × RS) ⊕ RS) :=
  if v2 ≤ v3 then
    some (.inr s)
  else
    if (s.1 44) = 0 then
      (rc s v3).bind fun x1 =>
      g_in (((137 : Int32) + ((7 : Int32) * v3)) + (6 : Int32)) 1800 (
      thn (x1.2.2.1 4 (((137 : Int32) + ((7 : Int32) * v3)) + (6 : Int32)).toNatClampNeg) fun x2 =>
      some (.inl (x2, x1)))
    else
      some (.inr s)
theorem X12_doAll_b2_ok (hh : mo + 18 ≤ h.2.1) {rc : RS → Int32 → Option RS} (hrc : ∀ (s : RS) (a0 : Int32) x, rc s a0 = some x → aMet l dr yX12_doOne cX12_doOne 5 none [.ref mo, .int a0] (rH mo h s) none (rH mo h x)) (v2 : Int32) (v3 : Int32) (s : RS) : aS l (dr + 1) MX12_doAll n0 S0 (a_LΦ (X12_doAll_x2 l n0 S0 dr mo h v2) l (dr + 1) MX12_doAll n0 S0 2 (fun (q : Int32 × RS) => [(0, .ref mo), (2, .int v2), (3, .int q.1)]) (fun _ => []) (fun (q : Int32 × RS) => rH mo h q.2)) 2 [(0, .ref mo), (2, .int v2), (3, .int v3)] [] (rH mo h s) (X12_doAll_b2 rc v2 v3 s) := by
  unfold X12_doAll_b2
  refine s_iload_n (pc := 2) 2 dX12_doAll_2 rfl ?_
  refine s_iload_n (pc := 3) 1 dX12_doAll_3 rfl ?_
  refine s_icmp_ge (tgt := 39) (pc := 4) dX12_doAll_4 (by decide) (fun _ => ?_) (fun _ => ?_)
  · refine s_sub [] rfl ?_
    exact s_ev (fun _ _ q => q)
  · refine s_aload_n (pc := 7) 0 dX12_doAll_7 rfl ?_
    refine rg_461 hh (pc := 8) dX12_doAll_8 rfl ?_
    refine s_if_ne (tgt := 39) (pc := 11) dX12_doAll_11 (by decide) (fun _ => ?_) (fun _ => ?_)
    · refine s_aload_n (pc := 14) 0 dX12_doAll_14 rfl ?_
      refine s_iload_n (pc := 15) 2 dX12_doAll_15 rfl ?_
      refine s_callV (M := MX12_doAll) (As := [.int v3]) (st := []) (Ψ := fun (x : RS) => (none, rH mo h x)) cv_X12_483 (by omega) (pc := 16) dX12_doAll_16 r_0 (r_lt (k := 0) hh (by decide)) rfl (Nat.le_of_ble_eq_true rfl) (fun x hx => hrc s v3 x hx) rfl (fun x1 _ => ?_)
      refine s_aload_n (pc := 19) 0 dX12_doAll_19 rfl ?_
      refine rg_35 hh (pc := 20) dX12_doAll_20 rfl ?_
      refine s_sipush (v := 137) (pc := 23) dX12_doAll_23 (by decide) ?_
      refine s_bipush (v := 7) (pc := 26) dX12_doAll_26 (by decide) ?_
      refine s_iload_n (pc := 28) 2 dX12_doAll_28 rfl ?_
      refine s_imul (pc := 29) dX12_doAll_29 ?_
      refine s_iadd (pc := 30) dX12_doAll_30 ?_
      refine s_bipush (v := 6) (pc := 31) dX12_doAll_31 (by decide) ?_
      refine s_iadd (pc := 33) dX12_doAll_33 ?_
      refine rl_4 hh (pc := 34) dX12_doAll_34 ?_
      refine s_istore_nT (lv' := fun x2 => [(3, .int x2), (0, .ref mo), (2, .int v2)]) (pc := 35) dX12_doAll_35 (by decide) (fun _ => rfl) (fun x2 => ?_)
      refine s_goto (tgt := 2) (pc := 36) dX12_doAll_36 (by decide) ?_
      refine s_sub [1, 2, 0] rfl ?_
      exact s_ev (fun _ _ q => q)
    · refine s_sub [] rfl ?_
      exact s_ev (fun _ _ q => q)
def pX12_doAll (rc : RS → Int32 → Option RS) (s : RS) (a0 : Int32) (a1 : Int32) : Option RS :=
  (a_loop (fun (q : Int32 × RS) => X12_doAll_b2 rc a1 q.1 q.2) FU (a0, s)).bind fun (t3 : RS) =>
    some t3
theorem pX12_doAll_w (hh : mo + 18 ≤ h.2.1) {rc : RS → Int32 → Option RS} (hrc : ∀ (s : RS) (a0 : Int32) x, rc s a0 = some x → aMet l dr yX12_doOne cX12_doOne 5 none [.ref mo, .int a0] (rH mo h s) none (rH mo h x)) (s : RS) (a0 : Int32) (a1 : Int32) : aS l (dr + 1) MX12_doAll n0 S0 (oΦ (fun (x : RS) => (none, rH mo h x))) 0 [(0, .ref mo), (1, .int a0), (2, .int a1)] [] (rH mo h s) (pX12_doAll rc s a0 a1) := by
  unfold pX12_doAll
  refine s_iload_n (pc := 0) 1 dX12_doAll_0 rfl ?_
  refine s_istore_n (lv' := [(3, .int a0), (0, .ref mo), (1, .int a0), (2, .int a1)]) (pc := 1) dX12_doAll_1 (by decide) rfl ?_
  refine s_bind (Ψ := X12_doAll_x2 l n0 S0 dr mo h a1) ?_ ?_
  · refine s_sub [1, 3, 0] rfl ?_
    exact s_loop (lvf := fun (q : Int32 × RS) => [(0, .ref mo), (2, .int a1), (3, .int q.1)]) (stf := fun _ => []) (hf := fun (q : Int32 × RS) => rH mo h q.2) (fun q => X12_doAll_b2_ok hh hrc a1 q.1 q.2) FU (a0, s)
  · intro t3 z r h' hz hr
    refine (?_ : aS l (dr + 1) MX12_doAll n0 S0 (oΦ (fun (x : RS) => (none, rH mo h x))) 39 [] [] (rH mo h t3) _) z hz r h' hr
    exact s_vret (pc := 39) dX12_doAll_39 rfl (fun _ _ q => q)
theorem pX12_doAll_ok (hh : mo + 18 ≤ h.2.1) {rc : RS → Int32 → Option RS} (hrc : ∀ (s : RS) (a0 : Int32) x, rc s a0 = some x → aMet l dr yX12_doOne cX12_doOne 5 none [.ref mo, .int a0] (rH mo h s) none (rH mo h x)) (s : RS) (a0 : Int32) (a1 : Int32) : ∀ x, pX12_doAll rc s a0 a1 = some x → aMet l (dr + 1) yX12_doAll cX12_doAll 4 none [.ref mo, .int a0, .int a1] (rH mo h s) none (rH mo h x) := fun x hx => a_meth (ini := false) (y := yX12_doAll) (by decide +kernel) (fun q => by cases q) (fun _ => Nat.le_of_ble_eq_true rfl) (pX12_doAll_w hh hrc s a0 a1) x hx _ _ ⟨rfl, rfl⟩
end
section
variable {l : Launch} {n0 S0 : Nat} {mo : Nat} {h : aH} {dr : Nat}
abbrev MX12_doOne : aM := (cX12_doOne, RX12, 5, none, false)
def X12_doOne_j56 (rc : RS → Int32 → Option RS) (v2 : Int32) (v3 : Int32) (s : RS) : Option RS :=
  g_in (v2 + (1 : Int32)) 1800 (
  g_in (v2 + (2 : Int32)) 1800 (
  (pX12_doAt s v3 (s.2.2.1 4 (v2 + (1 : Int32)).toNatClampNeg) (s.2.2.1 4 (v2 + (2 : Int32)).toNatClampNeg)).bind fun x4 =>
  some x4))
theorem X12_doOne_j56_ok (hh : mo + 18 ≤ h.2.1) {rc : RS → Int32 → Option RS} (hrc : ∀ (s : RS) (a0 : Int32) x, rc s a0 = some x → aMet l dr yX12_doOne cX12_doOne 5 none [.ref mo, .int a0] (rH mo h s) none (rH mo h x)) (v2 : Int32) (v3 : Int32) (s : RS) : aS l (dr + 8) MX12_doOne n0 S0 (oΦ (fun (x : RS) => (none, rH mo h x))) 56 [(0, .ref mo), (2, .int v2), (3, .int v3)] [] (rH mo h s) (X12_doOne_j56 rc v2 v3 s) := by
  unfold X12_doOne_j56
  refine s_aload_n (pc := 56) 0 dX12_doOne_56 rfl ?_
  refine s_iload_n (pc := 57) 2 dX12_doOne_57 rfl ?_
  refine s_aload_n (pc := 58) 0 dX12_doOne_58 rfl ?_
  refine rg_35 hh (pc := 59) dX12_doOne_59 rfl ?_
  refine s_iload_n (pc := 62) 1 dX12_doOne_62 rfl ?_
  refine s_iconst (v := 1) (pc := 63) dX12_doOne_63 (by decide) ?_
  refine s_iadd (pc := 64) dX12_doOne_64 ?_
  refine rl_4 hh (pc := 65) dX12_doOne_65 ?_
  refine s_aload_n (pc := 66) 0 dX12_doOne_66 rfl ?_
  refine rg_35 hh (pc := 67) dX12_doOne_67 rfl ?_
  refine s_iload_n (pc := 70) 1 dX12_doOne_70 rfl ?_
  refine s_iconst (v := 2) (pc := 71) dX12_doOne_71 (by decide) ?_
  refine s_iadd (pc := 72) dX12_doOne_72 ?_
  refine rl_4 hh (pc := 73) dX12_doOne_73 ?_
  refine s_callV (M := MX12_doOne) (As := [.int v3, .int (s.2.2.1 4 (v2 + (1 : Int32)).toNatClampNeg), .int (s.2.2.1 4 (v2 + (2 : Int32)).toNatClampNeg)]) (st := []) (Ψ := fun (x : RS) => (none, rH mo h x)) cv_X12_465 (by omega) (pc := 74) dX12_doOne_74 r_0 (r_lt (k := 0) hh (by decide)) rfl (Nat.le_of_ble_eq_true rfl) (fun x hx => pX12_doAt_ok hh s v3 (s.2.2.1 4 (v2 + (1 : Int32)).toNatClampNeg) (s.2.2.1 4 (v2 + (2 : Int32)).toNatClampNeg) x hx) rfl (fun x4 _ => ?_)
  refine s_goto (tgt := 231) (pc := 77) dX12_doOne_77 (by decide) ?_
  exact s_vret (pc := 231) dX12_doOne_231 rfl (fun _ _ q => q)
def X12_doOne_x175 (l : Launch) (n0 S0 : Nat) (dr : Nat) (mo : Nat) (h : aH) (v1 : Int32) (v2 : Int32) : RS → Option Value → aH → Prop := fun (x : RS) r h' => aEv l (dr + 8) MX12_doOne n0 S0 217 [] [] (rH mo h x) r h'
def X12_doOne_b175 (rc : RS → Int32 → Option RS) (v1 : Int32) (v2 : Int32) (v4 : Int32) (s : RS) : Option ((Int32 × RS) ⊕ RS) :=
  g_in (v2 + (1 : Int32)) 1800 (
  if (s.2.2.1 4 (v2 + (1 : Int32)).toNatClampNeg) ≤ v4 then
    some (.inr s)
  else
    if (s.1 44) = 0 then
      g_in (v2 + (6 : Int32)) 1800 (
      (pX12_doAll rc s (v1 + (1 : Int32)) (s.2.2.1 4 (v2 + (6 : Int32)).toNatClampNeg)).bind fun x6 =>
      thn (v4 + 1) fun x7 =>
      some (.inl (x7, x6)))
    else
      some (.inr s))
theorem X12_doOne_b175_ok (hh : mo + 18 ≤ h.2.1) {rc : RS → Int32 → Option RS} (hrc : ∀ (s : RS) (a0 : Int32) x, rc s a0 = some x → aMet l dr yX12_doOne cX12_doOne 5 none [.ref mo, .int a0] (rH mo h s) none (rH mo h x)) (v1 : Int32) (v2 : Int32) (v4 : Int32) (s : RS) : aS l (dr + 8) MX12_doOne n0 S0 (a_LΦ (X12_doOne_x175 l n0 S0 dr mo h v1 v2) l (dr + 8) MX12_doOne n0 S0 175 (fun (q : Int32 × RS) => [(0, .ref mo), (1, .int v1), (2, .int v2), (4, .int q.1)]) (fun _ => []) (fun (q : Int32 × RS) => rH mo h q.2)) 175 [(0, .ref mo), (1, .int v1), (2, .int v2), (4, .int v4)] [] (rH mo h s) (X12_doOne_b175 rc v1 v2 v4 s) := by
  unfold X12_doOne_b175
  refine s_iload (pc := 175) 3 dX12_doOne_175 rfl ?_
  refine s_aload_n (pc := 177) 0 dX12_doOne_177 rfl ?_
  refine rg_35 hh (pc := 178) dX12_doOne_178 rfl ?_
  refine s_iload_n (pc := 181) 2 dX12_doOne_181 rfl ?_
  refine s_iconst (v := 1) (pc := 182) dX12_doOne_182 (by decide) ?_
  refine s_iadd (pc := 183) dX12_doOne_183 ?_
  refine rl_4 hh (pc := 184) dX12_doOne_184 ?_
  refine s_icmp_ge (tgt := 217) (pc := 185) dX12_doOne_185 (by decide) (fun _ => ?_) (fun _ => ?_)
  · refine s_sub [] rfl ?_
    exact s_ev (fun _ _ q => q)
  · refine s_aload_n (pc := 188) 0 dX12_doOne_188 rfl ?_
    refine rg_461 hh (pc := 189) dX12_doOne_189 rfl ?_
    refine s_if_ne (tgt := 217) (pc := 192) dX12_doOne_192 (by decide) (fun _ => ?_) (fun _ => ?_)
    · refine s_aload_n (pc := 195) 0 dX12_doOne_195 rfl ?_
      refine s_iload_n (pc := 196) 1 dX12_doOne_196 rfl ?_
      refine s_iconst (v := 1) (pc := 197) dX12_doOne_197 (by decide) ?_
      refine s_iadd (pc := 198) dX12_doOne_198 ?_
      refine s_aload_n (pc := 199) 0 dX12_doOne_199 rfl ?_
      refine rg_35 hh (pc := 200) dX12_doOne_200 rfl ?_
      refine s_iload_n (pc := 203) 2 dX12_doOne_203 rfl ?_
      refine s_bipush (v := 6) (pc := 204) dX12_doOne_204 (by decide) ?_
      refine s_iadd (pc := 206) dX12_doOne_206 ?_
      refine rl_4 hh (pc := 207) dX12_doOne_207 ?_
      refine s_callV (M := MX12_doOne) (As := [.int (v1 + (1 : Int32)), .int (s.2.2.1 4 (v2 + (6 : Int32)).toNatClampNeg)]) (st := []) (Ψ := fun (x : RS) => (none, rH mo h x)) cv_X12_480 (by omega) (pc := 208) dX12_doOne_208 r_0 (r_lt (k := 0) hh (by decide)) rfl (Nat.le_of_ble_eq_true rfl) (fun x hx => pX12_doAll_ok hh hrc s (v1 + (1 : Int32)) (s.2.2.1 4 (v2 + (6 : Int32)).toNatClampNeg) x hx) rfl (fun x6 _ => ?_)
      refine s_iincT (pc := 211) 3 (lv' := fun x7 => [(4, .int x7), (0, .ref mo), (1, .int v1), (2, .int v2)]) dX12_doOne_211 rfl rfl (by decide) (fun _ => rfl) (fun x7 => ?_)
      refine s_goto (tgt := 175) (pc := 214) dX12_doOne_214 (by decide) ?_
      refine s_sub [1, 2, 3, 0] rfl ?_
      exact s_ev (fun _ _ q => q)
    · refine s_sub [] rfl ?_
      exact s_ev (fun _ _ q => q)
def X12_doOne_j166 (rc : RS → Int32 → Option RS) (v1 : Int32) (v2 : Int32) (v3 : Int32) (s : RS) : Option RS :=
  if v3 = (7 : Int32) then
    (a_loop (fun (q : Int32 × RS) => X12_doOne_b175 rc v1 v2 q.1 q.2) FU ((0 : Int32), s)).bind fun (t8 : RS) =>
      some t8
  else
    if v3 ≤ (7 : Int32) then
      some s
    else
      thn (uI s 44 (1 : Int32)) fun s5 =>
      some s5
theorem X12_doOne_j166_ok (hh : mo + 18 ≤ h.2.1) {rc : RS → Int32 → Option RS} (hrc : ∀ (s : RS) (a0 : Int32) x, rc s a0 = some x → aMet l dr yX12_doOne cX12_doOne 5 none [.ref mo, .int a0] (rH mo h s) none (rH mo h x)) (v1 : Int32) (v2 : Int32) (v3 : Int32) (s : RS) : aS l (dr + 8) MX12_doOne n0 S0 (oΦ (fun (x : RS) => (none, rH mo h x))) 166 [(0, .ref mo), (1, .int v1), (2, .int v2), (3, .int v3)] [] (rH mo h s) (X12_doOne_j166 rc v1 v2 v3 s) := by
  unfold X12_doOne_j166
  refine s_iload_n (pc := 166) 3 dX12_doOne_166 rfl ?_
  refine s_bipush (v := 7) (pc := 167) dX12_doOne_167 (by decide) ?_
  refine s_icmp_ne (tgt := 220) (pc := 169) dX12_doOne_169 (by decide) (fun _ => ?_) (fun _ => ?_)
  · refine s_iconst (v := 0) (pc := 172) dX12_doOne_172 (by decide) ?_
    refine s_istore (lv' := [(4, .int 0), (0, .ref mo), (1, .int v1), (2, .int v2), (3, .int v3)]) (pc := 173) dX12_doOne_173 (by decide) rfl ?_
    refine s_bind (Ψ := X12_doOne_x175 l n0 S0 dr mo h v1 v2) ?_ ?_
    · refine s_sub [1, 2, 3, 0] rfl ?_
      exact s_loop (lvf := fun (q : Int32 × RS) => [(0, .ref mo), (1, .int v1), (2, .int v2), (4, .int q.1)]) (stf := fun _ => []) (hf := fun (q : Int32 × RS) => rH mo h q.2) (fun q => X12_doOne_b175_ok hh hrc v1 v2 q.1 q.2) FU ((0 : Int32), s)
    · intro t8 z r h' hz hr
      refine (?_ : aS l (dr + 8) MX12_doOne n0 S0 (oΦ (fun (x : RS) => (none, rH mo h x))) 217 [] [] (rH mo h t8) _) z hz r h' hr
      refine s_goto (tgt := 231) (pc := 217) dX12_doOne_217 (by decide) ?_
      exact s_vret (pc := 231) dX12_doOne_231 rfl (fun _ _ q => q)
  · refine s_iload_n (pc := 220) 3 dX12_doOne_220 rfl ?_
    refine s_bipush (v := 7) (pc := 221) dX12_doOne_221 (by decide) ?_
    refine s_icmp_le (tgt := 231) (pc := 223) dX12_doOne_223 (by decide) (fun _ => ?_) (fun _ => ?_)
    · exact s_vret (pc := 231) dX12_doOne_231 rfl (fun _ _ q => q)
    · refine s_aload_n (pc := 226) 0 dX12_doOne_226 rfl ?_
      refine s_iconst (v := 1) (pc := 227) dX12_doOne_227 (by decide) ?_
      refine rp_461 ⟨by decide, by decide⟩ hh (pc := 228) dX12_doOne_228 rfl (fun s5 => ?_)
      exact s_vret (pc := 231) dX12_doOne_231 rfl (fun _ _ q => q)
def pX12_doOne_f (rc : RS → Int32 → Option RS) (s : RS) (a0 : Int32) : Option RS :=
  if (s.1 38) = (300 : Int32) then
    thn (uI s 44 (1 : Int32)) fun s14 =>
    some s14
  else
    thn (uI s 38 ((s.1 38) + (1 : Int32))) fun s1 =>
    thn ((137 : Int32) + ((7 : Int32) * a0)) fun x2 =>
    g_in x2 1800 (
    thn (s1.2.2.1 4 x2.toNatClampNeg) fun x3 =>
    if x3 = 0 then
      X12_doOne_j56 rc x2 x3 s1
    else
      if x3 = (2 : Int32) then
        X12_doOne_j56 rc x2 x3 s1
      else
        if x3 = (3 : Int32) then
          X12_doOne_j56 rc x2 x3 s1
        else
          if x3 = (1 : Int32) then
            (pX12_doShip s1 x2).bind fun x13 =>
            some x13
          else
            if x3 = (4 : Int32) then
              g_in (x2 + (1 : Int32)) 1800 (
              (pX12_doWait s1 (s1.2.2.1 4 (x2 + (1 : Int32)).toNatClampNeg)).bind fun x12 =>
              some x12)
            else
              if x3 = (5 : Int32) then
                g_in (x2 + (1 : Int32)) 1800 (
                (pX12_doDraw s1 (s1.2.2.1 4 (x2 + (1 : Int32)).toNatClampNeg)).bind fun x11 =>
                some x11)
              else
                if x3 = (6 : Int32) then
                  (pX12_isSo s1 x2).bind fun x9 =>
                  if x9 = true then
                    g_in (x2 + (6 : Int32)) 1800 (
                    (pX12_doAll rc s1 (a0 + (1 : Int32)) (s1.2.2.1 4 (x2 + (6 : Int32)).toNatClampNeg)).bind fun x10 =>
                    some x10)
                  else
                    X12_doOne_j166 rc a0 x2 x3 s1
                else
                  X12_doOne_j166 rc a0 x2 x3 s1)
theorem pX12_doOne_f_w (hh : mo + 18 ≤ h.2.1) {rc : RS → Int32 → Option RS} (hrc : ∀ (s : RS) (a0 : Int32) x, rc s a0 = some x → aMet l dr yX12_doOne cX12_doOne 5 none [.ref mo, .int a0] (rH mo h s) none (rH mo h x)) (s : RS) (a0 : Int32) : aS l (dr + 8) MX12_doOne n0 S0 (oΦ (fun (x : RS) => (none, rH mo h x))) 0 [(0, .ref mo), (1, .int a0)] [] (rH mo h s) (pX12_doOne_f rc s a0) := by
  unfold pX12_doOne_f
  refine s_aload_n (pc := 0) 0 dX12_doOne_0 rfl ?_
  refine rg_458 hh (pc := 1) dX12_doOne_1 rfl ?_
  refine s_sipush (v := 300) (pc := 4) dX12_doOne_4 (by decide) ?_
  refine s_icmp_ne (tgt := 16) (pc := 7) dX12_doOne_7 (by decide) (fun _ => ?_) (fun _ => ?_)
  · refine s_aload_n (pc := 10) 0 dX12_doOne_10 rfl ?_
    refine s_iconst (v := 1) (pc := 11) dX12_doOne_11 (by decide) ?_
    refine rp_461 ⟨by decide, by decide⟩ hh (pc := 12) dX12_doOne_12 rfl (fun s14 => ?_)
    exact s_vret (pc := 15) dX12_doOne_15 rfl (fun _ _ q => q)
  · refine s_aload_n (pc := 16) 0 dX12_doOne_16 rfl ?_
    refine s_dup (pc := 17) dX12_doOne_17 rfl ?_
    refine rg_458 hh (pc := 18) dX12_doOne_18 rfl ?_
    refine s_iconst (v := 1) (pc := 21) dX12_doOne_21 (by decide) ?_
    refine s_iadd (pc := 22) dX12_doOne_22 ?_
    refine rp_458 hh (pc := 23) dX12_doOne_23 rfl (fun s1 => ?_)
    refine s_sipush (v := 137) (pc := 26) dX12_doOne_26 (by decide) ?_
    refine s_bipush (v := 7) (pc := 29) dX12_doOne_29 (by decide) ?_
    refine s_iload_n (pc := 31) 1 dX12_doOne_31 rfl ?_
    refine s_imul (pc := 32) dX12_doOne_32 ?_
    refine s_iadd (pc := 33) dX12_doOne_33 ?_
    refine s_istore_nT (lv' := fun x2 => [(2, .int x2), (0, .ref mo), (1, .int a0)]) (pc := 34) dX12_doOne_34 (by decide) (fun _ => rfl) (fun x2 => ?_)
    refine s_aload_n (pc := 35) 1 dX12_doOne_35 rfl ?_
    refine rg_35 hh (pc := 36) dX12_doOne_36 rfl ?_
    refine s_iload_n (pc := 39) 0 dX12_doOne_39 rfl ?_
    refine rl_4 hh (pc := 40) dX12_doOne_40 ?_
    refine s_istore_nT (lv' := fun x3 => [(3, .int x3), (2, .int x2), (0, .ref mo), (1, .int a0)]) (pc := 41) dX12_doOne_41 (by decide) (fun _ => rfl) (fun x3 => ?_)
    refine s_iload_n (pc := 42) 0 dX12_doOne_42 rfl ?_
    refine s_if_eq (tgt := 56) (pc := 43) dX12_doOne_43 (by decide) (fun _ => ?_) (fun _ => ?_)
    · refine s_sub [2, 1, 0] rfl ?_
      exact X12_doOne_j56_ok hh hrc x2 x3 s1
    · refine s_iload_n (pc := 46) 0 dX12_doOne_46 rfl ?_
      refine s_iconst (v := 2) (pc := 47) dX12_doOne_47 (by decide) ?_
      refine s_icmp_eq (tgt := 56) (pc := 48) dX12_doOne_48 (by decide) (fun _ => ?_) (fun _ => ?_)
      · refine s_sub [2, 1, 0] rfl ?_
        exact X12_doOne_j56_ok hh hrc x2 x3 s1
      · refine s_iload_n (pc := 51) 0 dX12_doOne_51 rfl ?_
        refine s_iconst (v := 3) (pc := 52) dX12_doOne_52 (by decide) ?_
        refine s_icmp_ne (tgt := 80) (pc := 53) dX12_doOne_53 (by decide) (fun _ => ?_) (fun _ => ?_)
        · refine s_sub [2, 1, 0] rfl ?_
          exact X12_doOne_j56_ok hh hrc x2 x3 s1
        · refine s_iload_n (pc := 80) 0 dX12_doOne_80 rfl ?_
          refine s_iconst (v := 1) (pc := 81) dX12_doOne_81 (by decide) ?_
          refine s_icmp_ne (tgt := 93) (pc := 82) dX12_doOne_82 (by decide) (fun _ => ?_) (fun _ => ?_)
          · refine s_aload_n (pc := 85) 2 dX12_doOne_85 rfl ?_
            refine s_iload_n (pc := 86) 1 dX12_doOne_86 rfl ?_
            refine s_callV (M := MX12_doOne) (As := [.int x2]) (st := []) (Ψ := fun (x : RS) => (none, rH mo h x)) cv_X12_468 (by omega) (pc := 87) dX12_doOne_87 r_0 (r_lt (k := 0) hh (by decide)) rfl (Nat.le_of_ble_eq_true rfl) (fun x hx => pX12_doShip_ok hh s1 x2 x hx) rfl (fun x13 _ => ?_)
            refine s_goto (tgt := 231) (pc := 90) dX12_doOne_90 (by decide) ?_
            exact s_vret (pc := 231) dX12_doOne_231 rfl (fun _ _ q => q)
          · refine s_iload_n (pc := 93) 0 dX12_doOne_93 rfl ?_
            refine s_iconst (v := 4) (pc := 94) dX12_doOne_94 (by decide) ?_
            refine s_icmp_ne (tgt := 113) (pc := 95) dX12_doOne_95 (by decide) (fun _ => ?_) (fun _ => ?_)
            · refine s_aload_n (pc := 98) 2 dX12_doOne_98 rfl ?_
              refine s_aload_n (pc := 99) 2 dX12_doOne_99 rfl ?_
              refine rg_35 hh (pc := 100) dX12_doOne_100 rfl ?_
              refine s_iload_n (pc := 103) 1 dX12_doOne_103 rfl ?_
              refine s_iconst (v := 1) (pc := 104) dX12_doOne_104 (by decide) ?_
              refine s_iadd (pc := 105) dX12_doOne_105 ?_
              refine rl_4 hh (pc := 106) dX12_doOne_106 ?_
              refine s_callV (M := MX12_doOne) (As := [.int (s1.2.2.1 4 (x2 + (1 : Int32)).toNatClampNeg)]) (st := []) (Ψ := fun (x : RS) => (none, rH mo h x)) cv_X12_471 (by omega) (pc := 107) dX12_doOne_107 r_0 (r_lt (k := 0) hh (by decide)) rfl (Nat.le_of_ble_eq_true rfl) (fun x hx => pX12_doWait_ok hh s1 (s1.2.2.1 4 (x2 + (1 : Int32)).toNatClampNeg) x hx) rfl (fun x12 _ => ?_)
              refine s_goto (tgt := 231) (pc := 110) dX12_doOne_110 (by decide) ?_
              exact s_vret (pc := 231) dX12_doOne_231 rfl (fun _ _ q => q)
            · refine s_iload_n (pc := 113) 0 dX12_doOne_113 rfl ?_
              refine s_iconst (v := 5) (pc := 114) dX12_doOne_114 (by decide) ?_
              refine s_icmp_ne (tgt := 133) (pc := 115) dX12_doOne_115 (by decide) (fun _ => ?_) (fun _ => ?_)
              · refine s_aload_n (pc := 118) 2 dX12_doOne_118 rfl ?_
                refine s_aload_n (pc := 119) 2 dX12_doOne_119 rfl ?_
                refine rg_35 hh (pc := 120) dX12_doOne_120 rfl ?_
                refine s_iload_n (pc := 123) 1 dX12_doOne_123 rfl ?_
                refine s_iconst (v := 1) (pc := 124) dX12_doOne_124 (by decide) ?_
                refine s_iadd (pc := 125) dX12_doOne_125 ?_
                refine rl_4 hh (pc := 126) dX12_doOne_126 ?_
                refine s_callV (M := MX12_doOne) (As := [.int (s1.2.2.1 4 (x2 + (1 : Int32)).toNatClampNeg)]) (st := []) (Ψ := fun (x : RS) => (none, rH mo h x)) cv_X12_474 (by omega) (pc := 127) dX12_doOne_127 r_0 (r_lt (k := 0) hh (by decide)) rfl (Nat.le_of_ble_eq_true rfl) (fun x hx => pX12_doDraw_ok hh s1 (s1.2.2.1 4 (x2 + (1 : Int32)).toNatClampNeg) x hx) rfl (fun x11 _ => ?_)
                refine s_goto (tgt := 231) (pc := 130) dX12_doOne_130 (by decide) ?_
                exact s_vret (pc := 231) dX12_doOne_231 rfl (fun _ _ q => q)
              · refine s_iload_n (pc := 133) 0 dX12_doOne_133 rfl ?_
                refine s_bipush (v := 6) (pc := 134) dX12_doOne_134 (by decide) ?_
                refine s_icmp_ne (tgt := 166) (pc := 136) dX12_doOne_136 (by decide) (fun _ => ?_) (fun _ => ?_)
                · refine s_aload_n (pc := 139) 2 dX12_doOne_139 rfl ?_
                  refine s_iload_n (pc := 140) 1 dX12_doOne_140 rfl ?_
                  refine s_callV (M := MX12_doOne) (As := [.int x2]) (st := []) (Ψ := fun (x : Bool) => (some (.int (b2i x)), rH mo h s1)) cv_X12_477 (by omega) (pc := 141) dX12_doOne_141 r_0 (r_lt (k := 0) hh (by decide)) rfl (Nat.le_of_ble_eq_true rfl) (fun x hx => pX12_isSo_ok hh s1 x2 x hx) rfl (fun x9 _ => ?_)
                  refine s_if_eqB (tgt := 166) (pc := 144) dX12_doOne_144 (by decide) (fun _ => ?_) (fun _ => ?_)
                  · refine s_aload_n (pc := 147) 2 dX12_doOne_147 rfl ?_
                    refine s_iload_n (pc := 148) 3 dX12_doOne_148 rfl ?_
                    refine s_iconst (v := 1) (pc := 149) dX12_doOne_149 (by decide) ?_
                    refine s_iadd (pc := 150) dX12_doOne_150 ?_
                    refine s_aload_n (pc := 151) 2 dX12_doOne_151 rfl ?_
                    refine rg_35 hh (pc := 152) dX12_doOne_152 rfl ?_
                    refine s_iload_n (pc := 155) 1 dX12_doOne_155 rfl ?_
                    refine s_bipush (v := 6) (pc := 156) dX12_doOne_156 (by decide) ?_
                    refine s_iadd (pc := 158) dX12_doOne_158 ?_
                    refine rl_4 hh (pc := 159) dX12_doOne_159 ?_
                    refine s_callV (M := MX12_doOne) (As := [.int (a0 + (1 : Int32)), .int (s1.2.2.1 4 (x2 + (6 : Int32)).toNatClampNeg)]) (st := []) (Ψ := fun (x : RS) => (none, rH mo h x)) cv_X12_480 (by omega) (pc := 160) dX12_doOne_160 r_0 (r_lt (k := 0) hh (by decide)) rfl (Nat.le_of_ble_eq_true rfl) (fun x hx => pX12_doAll_ok hh hrc s1 (a0 + (1 : Int32)) (s1.2.2.1 4 (x2 + (6 : Int32)).toNatClampNeg) x hx) rfl (fun x10 _ => ?_)
                    refine s_goto (tgt := 231) (pc := 163) dX12_doOne_163 (by decide) ?_
                    exact s_vret (pc := 231) dX12_doOne_231 rfl (fun _ _ q => q)
                  · refine s_sub [2, 3, 1, 0] rfl ?_
                    exact X12_doOne_j166_ok hh hrc a0 x2 x3 s1
                · refine s_sub [2, 3, 1, 0] rfl ?_
                  exact X12_doOne_j166_ok hh hrc a0 x2 x3 s1
theorem pX12_doOne_f_ok (hh : mo + 18 ≤ h.2.1) {rc : RS → Int32 → Option RS} (hrc : ∀ (s : RS) (a0 : Int32) x, rc s a0 = some x → aMet l dr yX12_doOne cX12_doOne 5 none [.ref mo, .int a0] (rH mo h s) none (rH mo h x)) (s : RS) (a0 : Int32) : ∀ x, pX12_doOne_f rc s a0 = some x → aMet l (dr + 8) yX12_doOne cX12_doOne 5 none [.ref mo, .int a0] (rH mo h s) none (rH mo h x) := fun x hx => a_meth (ini := false) (y := yX12_doOne) (by decide +kernel) (fun q => by cases q) (fun _ => Nat.le_of_ble_eq_true rfl) (pX12_doOne_f_w hh hrc s a0) x hx _ _ ⟨rfl, rfl⟩
def pX12_doOne : Nat → RS → Int32 → Option RS
  | 0 => fun _ _ => none
  | n + 1 => fun s a0 => pX12_doOne_f (pX12_doOne n) s a0
theorem pX12_doOne_ok (hh : mo + 18 ≤ h.2.1) : ∀ n : Nat, ∀ (s : RS) (a0 : Int32) x, pX12_doOne n s a0 = some x → aMet l (8 * n) yX12_doOne cX12_doOne 5 none [.ref mo, .int a0] (rH mo h s) none (rH mo h x)
  | 0 => fun _ _ x hx => by cases hx
  | n + 1 => fun s a0 x hx => by
    have := pX12_doOne_f_ok (dr := 8 * n) hh (pX12_doOne_ok hh n) s a0 x hx
    exact this
end
section
variable {l : Launch} {n0 S0 : Nat} {mo : Nat} {h : aH}
abbrev MX12_run : aM := (cX12_run, RX12, 2, none, false)
def pX12_run (s : RS) (a0 : Int32) : Option RS :=
  thn (uI s 37 a0) fun s1 =>
  thn (uI s1 38 (0 : Int32)) fun s2 =>
  thn (uI s2 39 (0 : Int32)) fun s3 =>
  thn (uI s3 40 (0 : Int32)) fun s4 =>
  thn (uI s4 41 (0 : Int32)) fun s5 =>
  thn (uI s5 42 (0 : Int32)) fun s6 =>
  thn (uI s6 36 (0 : Int32)) fun s7 =>
  thn (uI s7 35 (0 : Int32)) fun s8 =>
  thn (uI s8 44 (0 : Int32)) fun s9 =>
  g_in (136 : Int32) 1800 (
  (pX12_doAll (pX12_doOne 20) s9 (0 : Int32) (s9.2.2.1 4 (136 : Int32).toNatClampNeg)).bind fun x10 =>
  some x10)
theorem pX12_run_w (hh : mo + 18 ≤ h.2.1) (s : RS) (a0 : Int32) : aS l 162 MX12_run n0 S0 (oΦ (fun (x : RS) => (none, rH mo h x))) 0 [(0, .ref mo), (1, .int a0)] [] (rH mo h s) (pX12_run s a0) := by
  unfold pX12_run
  refine s_aload_n (pc := 0) 0 dX12_run_0 rfl ?_
  refine s_iload_n (pc := 1) 1 dX12_run_1 rfl ?_
  refine rp_425 hh (pc := 2) dX12_run_2 rfl (fun s1 => ?_)
  refine s_aload_n (pc := 5) 0 dX12_run_5 rfl ?_
  refine s_iconst (v := 0) (pc := 6) dX12_run_6 (by decide) ?_
  refine rp_458 hh (pc := 7) dX12_run_7 rfl (fun s2 => ?_)
  refine s_aload_n (pc := 10) 0 dX12_run_10 rfl ?_
  refine s_iconst (v := 0) (pc := 11) dX12_run_11 (by decide) ?_
  refine rp_443 hh (pc := 12) dX12_run_12 rfl (fun s3 => ?_)
  refine s_aload_n (pc := 15) 0 dX12_run_15 rfl ?_
  refine s_iconst (v := 0) (pc := 16) dX12_run_16 (by decide) ?_
  refine rp_434 hh (pc := 17) dX12_run_17 rfl (fun s4 => ?_)
  refine s_aload_n (pc := 20) 0 dX12_run_20 rfl ?_
  refine s_iconst (v := 0) (pc := 21) dX12_run_21 (by decide) ?_
  refine rp_428 hh (pc := 22) dX12_run_22 rfl (fun s5 => ?_)
  refine s_aload_n (pc := 25) 0 dX12_run_25 rfl ?_
  refine s_iconst (v := 0) (pc := 26) dX12_run_26 (by decide) ?_
  refine rp_452 hh (pc := 27) dX12_run_27 rfl (fun s6 => ?_)
  refine s_aload_n (pc := 30) 0 dX12_run_30 rfl ?_
  refine s_iconst (v := 0) (pc := 31) dX12_run_31 (by decide) ?_
  refine rp_437 hh (pc := 32) dX12_run_32 rfl (fun s7 => ?_)
  refine s_aload_n (pc := 35) 0 dX12_run_35 rfl ?_
  refine s_iconst (v := 0) (pc := 36) dX12_run_36 (by decide) ?_
  refine rp_431 hh (pc := 37) dX12_run_37 rfl (fun s8 => ?_)
  refine s_aload_n (pc := 40) 0 dX12_run_40 rfl ?_
  refine s_iconst (v := 0) (pc := 41) dX12_run_41 (by decide) ?_
  refine rp_461 ⟨by decide, by decide⟩ hh (pc := 42) dX12_run_42 rfl (fun s9 => ?_)
  refine s_aload_n (pc := 45) 0 dX12_run_45 rfl ?_
  refine s_iconst (v := 0) (pc := 46) dX12_run_46 (by decide) ?_
  refine s_aload_n (pc := 47) 0 dX12_run_47 rfl ?_
  refine rg_35 hh (pc := 48) dX12_run_48 rfl ?_
  refine s_sipush (v := 136) (pc := 51) dX12_run_51 (by decide) ?_
  refine rl_4 hh (pc := 54) dX12_run_54 ?_
  refine s_callV (M := MX12_run) (As := [.int 0, .int (s9.2.2.1 4 (136 : Int32).toNatClampNeg)]) (st := []) (Ψ := fun (x : RS) => (none, rH mo h x)) cv_X12_480 (by decide) (pc := 55) dX12_run_55 r_0 (r_lt (k := 0) hh (by decide)) rfl (Nat.le_of_ble_eq_true rfl) (fun x hx => pX12_doAll_ok hh (pX12_doOne_ok hh 20) s9 (0 : Int32) (s9.2.2.1 4 (136 : Int32).toNatClampNeg) x hx) rfl (fun x10 _ => ?_)
  exact s_vret (pc := 58) dX12_run_58 rfl (fun _ _ q => q)
theorem pX12_run_ok (hh : mo + 18 ≤ h.2.1) (s : RS) (a0 : Int32) : ∀ x, pX12_run s a0 = some x → aMet l 162 yX12_run cX12_run 2 none [.ref mo, .int a0] (rH mo h s) none (rH mo h x) := fun x hx => a_meth (ini := false) (y := yX12_run) (by decide +kernel) (fun q => by cases q) (fun _ => Nat.le_of_ble_eq_true rfl) (pX12_run_w hh s a0) x hx _ _ ⟨rfl, rfl⟩
end
section
variable {l : Launch} {n0 S0 : Nat} {mo : Nat} {h : aH}
abbrev MX12_sail : aM := (cX12_sail, RX12, 2, (some .int), false)
def pX12_sail (s : RS) (a0 : Int32) : Option (Int32 × RS) :=
  thn (uI s 1 (0 : Int32)) fun s1 =>
  thn (uI s1 0 (0 : Int32)) fun s2 =>
  (pX12_isIn a0.toInt64 (0 : Int64) (9999 : Int64)).bind fun x3 =>
  if x3 = true then
    g_in (135 : Int32) 1800 (
    if (s2.2.2.1 4 (135 : Int32).toNatClampNeg) = 0 then
      (pX12_refuse s2 (8 : Int32)).bind fun x11 =>
      some (x11.1, x11.2)
    else
      (pX12_run s2 a0).bind fun x4 =>
      g_in (0 : Int32) 5 (thn (uA x4 14 (upd (x4.2.2.1 14) (0 : Int32).toNatClampNeg (x4.1 39))) fun s5 =>
      g_in (1 : Int32) 5 (thn (uA s5 14 (upd (s5.2.2.1 14) (1 : Int32).toNatClampNeg (s5.1 40))) fun s6 =>
      g_in (2 : Int32) 5 (thn (uA s6 14 (upd (s6.2.2.1 14) (2 : Int32).toNatClampNeg (s6.1 41))) fun s7 =>
      g_in (3 : Int32) 5 (thn (uA s7 14 (upd (s7.2.2.1 14) (3 : Int32).toNatClampNeg (s7.1 42))) fun s8 =>
      g_in (4 : Int32) 5 (thn (uA s8 14 (upd (s8.2.2.1 14) (4 : Int32).toNatClampNeg (s8.1 35))) fun s9 =>
      thn (uI s9 43 (1 : Int32)) fun s10 =>
      some ((s10.1 38), s10)))))))
  else
    (pX12_refuse s2 (5 : Int32)).bind fun x12 =>
    some (x12.1, x12.2)
theorem pX12_sail_w (hh : mo + 18 ≤ h.2.1) (s : RS) (a0 : Int32) : aS l 163 MX12_sail n0 S0 (oΦ (fun (x : Int32 × RS) => (some (.int x.1), rH mo h x.2))) 0 [(0, .ref mo), (1, .int a0)] [] (rH mo h s) (pX12_sail s a0) := by
  unfold pX12_sail
  refine s_aload_n (pc := 0) 0 dX12_sail_0 rfl ?_
  refine s_iconst (v := 0) (pc := 1) dX12_sail_1 (by decide) ?_
  refine rp_75 hh (pc := 2) dX12_sail_2 rfl (fun s1 => ?_)
  refine s_aload_n (pc := 5) 0 dX12_sail_5 rfl ?_
  refine s_iconst (v := 0) (pc := 6) dX12_sail_6 (by decide) ?_
  refine rp_78 hh (pc := 7) dX12_sail_7 rfl (fun s2 => ?_)
  refine s_iload_n (pc := 10) 1 dX12_sail_10 rfl ?_
  refine s_i2l (pc := 11) dX12_sail_11 ?_
  refine s_lconst (v := 0) (pc := 12) dX12_sail_12 (by decide) ?_
  refine s_ldc2 (v := 9999) (pc := 13) dX12_sail_13 wk_X12_486 ?_
  refine s_callS (M := MX12_sail) (As := [.long a0.toInt64, .long (0 : Int64), .long (9999 : Int64)]) (st := []) (Ψ := fun (x : Bool) => (some (.int (b2i x)), rH mo h s2)) cs_X12_110 (by decide) (pc := 16) dX12_sail_16 rfl (Nat.le_of_ble_eq_true rfl) (fun x hx => pX12_isIn_ok a0.toInt64 (0 : Int64) (9999 : Int64) x hx) rfl (fun x3 _ => ?_)
  refine s_if_neB (tgt := 28) (pc := 19) dX12_sail_19 (by decide) (fun _ => ?_) (fun _ => ?_)
  · refine s_aload_n (pc := 28) 0 dX12_sail_28 rfl ?_
    refine rg_35 hh (pc := 29) dX12_sail_29 rfl ?_
    refine s_sipush (v := 135) (pc := 32) dX12_sail_32 (by decide) ?_
    refine rl_4 hh (pc := 35) dX12_sail_35 ?_
    refine s_if_ne (tgt := 46) (pc := 36) dX12_sail_36 (by decide) (fun _ => ?_) (fun _ => ?_)
    · refine s_aload_n (pc := 39) 0 dX12_sail_39 rfl ?_
      refine s_bipush (v := 8) (pc := 40) dX12_sail_40 (by decide) ?_
      refine s_callV (M := MX12_sail) (As := [.int 8]) (st := []) (Ψ := fun (x : Int32 × RS) => (some (.int x.1), rH mo h x.2)) cv_X12_299 (by decide) (pc := 42) dX12_sail_42 r_0 (r_lt (k := 0) hh (by decide)) rfl (Nat.le_of_ble_eq_true rfl) (fun x hx => pX12_refuse_ok hh s2 (8 : Int32) x hx) rfl (fun x11 _ => ?_)
      exact s_iret (pc := 45) dX12_sail_45 rfl (fun _ _ q => q)
    · refine s_aload_n (pc := 46) 0 dX12_sail_46 rfl ?_
      refine s_iload_n (pc := 47) 1 dX12_sail_47 rfl ?_
      refine s_callV (M := MX12_sail) (As := [.int a0]) (st := []) (Ψ := fun (x : RS) => (none, rH mo h x)) cv_X12_488 (by decide) (pc := 48) dX12_sail_48 r_0 (r_lt (k := 0) hh (by decide)) rfl (Nat.le_of_ble_eq_true rfl) (fun x hx => pX12_run_ok hh s2 a0 x hx) rfl (fun x4 _ => ?_)
      refine s_aload_n (pc := 51) 0 dX12_sail_51 rfl ?_
      refine rg_66 hh (pc := 52) dX12_sail_52 rfl ?_
      refine s_iconst (v := 0) (pc := 55) dX12_sail_55 (by decide) ?_
      refine s_aload_n (pc := 56) 0 dX12_sail_56 rfl ?_
      refine rg_443 hh (pc := 57) dX12_sail_57 rfl ?_
      refine rs_14 hh (pc := 60) dX12_sail_60 (fun s5 => ?_)
      refine s_aload_n (pc := 61) 0 dX12_sail_61 rfl ?_
      refine rg_66 hh (pc := 62) dX12_sail_62 rfl ?_
      refine s_iconst (v := 1) (pc := 65) dX12_sail_65 (by decide) ?_
      refine s_aload_n (pc := 66) 0 dX12_sail_66 rfl ?_
      refine rg_434 hh (pc := 67) dX12_sail_67 rfl ?_
      refine rs_14 hh (pc := 70) dX12_sail_70 (fun s6 => ?_)
      refine s_aload_n (pc := 71) 0 dX12_sail_71 rfl ?_
      refine rg_66 hh (pc := 72) dX12_sail_72 rfl ?_
      refine s_iconst (v := 2) (pc := 75) dX12_sail_75 (by decide) ?_
      refine s_aload_n (pc := 76) 0 dX12_sail_76 rfl ?_
      refine rg_428 hh (pc := 77) dX12_sail_77 rfl ?_
      refine rs_14 hh (pc := 80) dX12_sail_80 (fun s7 => ?_)
      refine s_aload_n (pc := 81) 0 dX12_sail_81 rfl ?_
      refine rg_66 hh (pc := 82) dX12_sail_82 rfl ?_
      refine s_iconst (v := 3) (pc := 85) dX12_sail_85 (by decide) ?_
      refine s_aload_n (pc := 86) 0 dX12_sail_86 rfl ?_
      refine rg_452 hh (pc := 87) dX12_sail_87 rfl ?_
      refine rs_14 hh (pc := 90) dX12_sail_90 (fun s8 => ?_)
      refine s_aload_n (pc := 91) 0 dX12_sail_91 rfl ?_
      refine rg_66 hh (pc := 92) dX12_sail_92 rfl ?_
      refine s_iconst (v := 4) (pc := 95) dX12_sail_95 (by decide) ?_
      refine s_aload_n (pc := 96) 0 dX12_sail_96 rfl ?_
      refine rg_431 hh (pc := 97) dX12_sail_97 rfl ?_
      refine rs_14 hh (pc := 100) dX12_sail_100 (fun s9 => ?_)
      refine s_aload_n (pc := 101) 0 dX12_sail_101 rfl ?_
      refine s_iconst (v := 1) (pc := 102) dX12_sail_102 (by decide) ?_
      refine rp_491 ⟨by decide, by decide⟩ hh (pc := 103) dX12_sail_103 rfl (fun s10 => ?_)
      refine s_aload_n (pc := 106) 0 dX12_sail_106 rfl ?_
      refine rg_458 hh (pc := 107) dX12_sail_107 rfl ?_
      exact s_iret (pc := 110) dX12_sail_110 rfl (fun _ _ q => q)
  · refine s_aload_n (pc := 22) 0 dX12_sail_22 rfl ?_
    refine s_iconst (v := 5) (pc := 23) dX12_sail_23 (by decide) ?_
    refine s_callV (M := MX12_sail) (As := [.int 5]) (st := []) (Ψ := fun (x : Int32 × RS) => (some (.int x.1), rH mo h x.2)) cv_X12_299 (by decide) (pc := 24) dX12_sail_24 r_0 (r_lt (k := 0) hh (by decide)) rfl (Nat.le_of_ble_eq_true rfl) (fun x hx => pX12_refuse_ok hh s2 (5 : Int32) x hx) rfl (fun x12 _ => ?_)
    exact s_iret (pc := 27) dX12_sail_27 rfl (fun _ _ q => q)
theorem pX12_sail_ok (hh : mo + 18 ≤ h.2.1) (s : RS) (a0 : Int32) : ∀ x, pX12_sail s a0 = some x → aMet l 163 yX12_sail cX12_sail 2 (some .int) [.ref mo, .int a0] (rH mo h s) (some (.int x.1)) (rH mo h x.2) := fun x hx => a_meth (ini := false) (y := yX12_sail) (by decide +kernel) (fun q => by cases q) (fun _ => Nat.le_of_ble_eq_true rfl) (pX12_sail_w hh s a0) x hx _ _ ⟨rfl, rfl⟩
end
section
variable {l : Launch} {n0 S0 : Nat} {mo : Nat} {h : aH}
abbrev MX12_sailed : aM := (cX12_sailed, RX12, 2, (some .int), false)
def pX12_sailed (s : RS) (a0 : Int32) : Option (Int32 × RS) :=
  thn (uI s 1 (0 : Int32)) fun s1 =>
  thn (uI s1 0 (0 : Int32)) fun s2 =>
  (pX12_isIn a0.toInt64 (0 : Int64) (4 : Int64)).bind fun x3 =>
  if x3 = true then
    if (s2.1 43) = 0 then
      (pX12_refuse s2 (8 : Int32)).bind fun x4 =>
      some (x4.1, x4.2)
    else
      g_in a0 5 (
      some ((s2.2.2.1 14 a0.toNatClampNeg), s2))
  else
    (pX12_refuse s2 (5 : Int32)).bind fun x5 =>
    some (x5.1, x5.2)
theorem pX12_sailed_w (hh : mo + 18 ≤ h.2.1) (s : RS) (a0 : Int32) : aS l 1 MX12_sailed n0 S0 (oΦ (fun (x : Int32 × RS) => (some (.int x.1), rH mo h x.2))) 0 [(0, .ref mo), (1, .int a0)] [] (rH mo h s) (pX12_sailed s a0) := by
  unfold pX12_sailed
  refine s_aload_n (pc := 0) 0 dX12_sailed_0 rfl ?_
  refine s_iconst (v := 0) (pc := 1) dX12_sailed_1 (by decide) ?_
  refine rp_75 hh (pc := 2) dX12_sailed_2 rfl (fun s1 => ?_)
  refine s_aload_n (pc := 5) 0 dX12_sailed_5 rfl ?_
  refine s_iconst (v := 0) (pc := 6) dX12_sailed_6 (by decide) ?_
  refine rp_78 hh (pc := 7) dX12_sailed_7 rfl (fun s2 => ?_)
  refine s_iload_n (pc := 10) 1 dX12_sailed_10 rfl ?_
  refine s_i2l (pc := 11) dX12_sailed_11 ?_
  refine s_lconst (v := 0) (pc := 12) dX12_sailed_12 (by decide) ?_
  refine s_ldc2 (v := 4) (pc := 13) dX12_sailed_13 wk_X12_494 ?_
  refine s_callS (M := MX12_sailed) (As := [.long a0.toInt64, .long (0 : Int64), .long (4 : Int64)]) (st := []) (Ψ := fun (x : Bool) => (some (.int (b2i x)), rH mo h s2)) cs_X12_110 (by decide) (pc := 16) dX12_sailed_16 rfl (Nat.le_of_ble_eq_true rfl) (fun x hx => pX12_isIn_ok a0.toInt64 (0 : Int64) (4 : Int64) x hx) rfl (fun x3 _ => ?_)
  refine s_if_neB (tgt := 28) (pc := 19) dX12_sailed_19 (by decide) (fun _ => ?_) (fun _ => ?_)
  · refine s_aload_n (pc := 28) 0 dX12_sailed_28 rfl ?_
    refine rg_491 hh (pc := 29) dX12_sailed_29 rfl ?_
    refine s_if_eq (tgt := 44) (pc := 32) dX12_sailed_32 (by decide) (fun _ => ?_) (fun _ => ?_)
    · refine s_aload_n (pc := 44) 0 dX12_sailed_44 rfl ?_
      refine s_bipush (v := 8) (pc := 45) dX12_sailed_45 (by decide) ?_
      refine s_callV (M := MX12_sailed) (As := [.int 8]) (st := []) (Ψ := fun (x : Int32 × RS) => (some (.int x.1), rH mo h x.2)) cv_X12_299 (by decide) (pc := 47) dX12_sailed_47 r_0 (r_lt (k := 0) hh (by decide)) rfl (Nat.le_of_ble_eq_true rfl) (fun x hx => pX12_refuse_ok hh s2 (8 : Int32) x hx) rfl (fun x4 _ => ?_)
      exact s_iret (pc := 50) dX12_sailed_50 rfl (fun _ _ q => q)
    · refine s_aload_n (pc := 35) 0 dX12_sailed_35 rfl ?_
      refine rg_66 hh (pc := 36) dX12_sailed_36 rfl ?_
      refine s_iload_n (pc := 39) 1 dX12_sailed_39 rfl ?_
      refine rl_14 hh (pc := 40) dX12_sailed_40 ?_
      refine s_goto (tgt := 50) (pc := 41) dX12_sailed_41 (by decide) ?_
      exact s_iret (pc := 50) dX12_sailed_50 rfl (fun _ _ q => q)
  · refine s_aload_n (pc := 22) 0 dX12_sailed_22 rfl ?_
    refine s_iconst (v := 5) (pc := 23) dX12_sailed_23 (by decide) ?_
    refine s_callV (M := MX12_sailed) (As := [.int 5]) (st := []) (Ψ := fun (x : Int32 × RS) => (some (.int x.1), rH mo h x.2)) cv_X12_299 (by decide) (pc := 24) dX12_sailed_24 r_0 (r_lt (k := 0) hh (by decide)) rfl (Nat.le_of_ble_eq_true rfl) (fun x hx => pX12_refuse_ok hh s2 (5 : Int32) x hx) rfl (fun x5 _ => ?_)
    exact s_iret (pc := 27) dX12_sailed_27 rfl (fun _ _ q => q)
theorem pX12_sailed_ok (hh : mo + 18 ≤ h.2.1) (s : RS) (a0 : Int32) : ∀ x, pX12_sailed s a0 = some x → aMet l 1 yX12_sailed cX12_sailed 2 (some .int) [.ref mo, .int a0] (rH mo h s) (some (.int x.1)) (rH mo h x.2) := fun x hx => a_meth (ini := false) (y := yX12_sailed) (by decide +kernel) (fun q => by cases q) (fun _ => Nat.le_of_ble_eq_true rfl) (pX12_sailed_w hh s a0) x hx _ _ ⟨rfl, rfl⟩
end
section
variable {l : Launch} {n0 S0 : Nat} {mo : Nat} {h : aH}
abbrev MX12_agreed : aM := (cX12_agreed, RX12, 7, (some .int), false)
def X12_agreed_j37 (s : RS) : Option (Int32 × RS) :=
  (pX12_refuse s (5 : Int32)).bind fun x4 =>
  some (x4.1, x4.2)
theorem X12_agreed_j37_ok (hh : mo + 18 ≤ h.2.1) (s : RS) : aS l 163 MX12_agreed n0 S0 (oΦ (fun (x : Int32 × RS) => (some (.int x.1), rH mo h x.2))) 37 [(0, .ref mo)] [] (rH mo h s) (X12_agreed_j37 s) := by
  unfold X12_agreed_j37
  refine s_aload_n (pc := 37) 0 dX12_agreed_37 rfl ?_
  refine s_iconst (v := 5) (pc := 38) dX12_agreed_38 (by decide) ?_
  refine s_callV (M := MX12_agreed) (As := [.int 5]) (st := []) (Ψ := fun (x : Int32 × RS) => (some (.int x.1), rH mo h x.2)) cv_X12_299 (by decide) (pc := 39) dX12_agreed_39 r_0 (r_lt (k := 0) hh (by decide)) rfl (Nat.le_of_ble_eq_true rfl) (fun x hx => pX12_refuse_ok hh s (5 : Int32) x hx) rfl (fun x4 _ => ?_)
  exact s_iret (pc := 42) dX12_agreed_42 rfl (fun _ _ q => q)
def X12_agreed_x63 (l : Launch) (n0 S0 : Nat) (mo : Nat) (h : aH) (v1 : Int32) (v2 : Int32) : RS → Option Value → aH → Prop := fun (x : RS) r h' => aEv l 163 MX12_agreed n0 S0 89 [(0, .ref mo), (1, .int v1), (2, .int v2)] [] (rH mo h x) r h'
def X12_agreed_b63 (v1 : Int32) (v2 : Int32) (v3 : Int32) (s : RS) : Option ((Int32 × RS) ⊕ RS) :=
  if (4 : Int32) ≤ v3 then
    some (.inr s)
  else
    g_in ((114 : Int32) + v3) 1800 (
    g_in v3 4 (thn (uA s 15 (upd (s.2.2.1 15) v3.toNatClampNeg (s.2.2.1 4 ((114 : Int32) + v3).toNatClampNeg))) fun s6 =>
    thn (v3 + 1) fun x7 =>
    some (.inl (x7, s6))))
theorem X12_agreed_b63_ok (hh : mo + 18 ≤ h.2.1) (v1 : Int32) (v2 : Int32) (v3 : Int32) (s : RS) : aS l 163 MX12_agreed n0 S0 (a_LΦ (X12_agreed_x63 l n0 S0 mo h v1 v2) l 163 MX12_agreed n0 S0 63 (fun (q : Int32 × RS) => [(0, .ref mo), (1, .int v1), (2, .int v2), (3, .int q.1)]) (fun _ => []) (fun (q : Int32 × RS) => rH mo h q.2)) 63 [(0, .ref mo), (1, .int v1), (2, .int v2), (3, .int v3)] [] (rH mo h s) (X12_agreed_b63 v1 v2 v3 s) := by
  unfold X12_agreed_b63
  refine s_iload_n (pc := 63) 3 dX12_agreed_63 rfl ?_
  refine s_iconst (v := 4) (pc := 64) dX12_agreed_64 (by decide) ?_
  refine s_icmp_ge (tgt := 89) (pc := 65) dX12_agreed_65 (by decide) (fun _ => ?_) (fun _ => ?_)
  · refine s_sub [0, 1, 2] rfl ?_
    exact s_ev (fun _ _ q => q)
  · refine s_aload_n (pc := 68) 0 dX12_agreed_68 rfl ?_
    refine rg_69 hh (pc := 69) dX12_agreed_69 rfl ?_
    refine s_iload_n (pc := 72) 3 dX12_agreed_72 rfl ?_
    refine s_aload_n (pc := 73) 0 dX12_agreed_73 rfl ?_
    refine rg_35 hh (pc := 74) dX12_agreed_74 rfl ?_
    refine s_bipush (v := 114) (pc := 77) dX12_agreed_77 (by decide) ?_
    refine s_iload_n (pc := 79) 3 dX12_agreed_79 rfl ?_
    refine s_iadd (pc := 80) dX12_agreed_80 ?_
    refine rl_4 hh (pc := 81) dX12_agreed_81 ?_
    refine rs_15 hh (pc := 82) dX12_agreed_82 (fun s6 => ?_)
    refine s_iincT (pc := 83) 3 (lv' := fun x7 => [(3, .int x7), (0, .ref mo), (1, .int v1), (2, .int v2)]) dX12_agreed_83 rfl rfl (by decide) (fun _ => rfl) (fun x7 => ?_)
    refine s_goto (tgt := 63) (pc := 86) dX12_agreed_86 (by decide) ?_
    refine s_sub [1, 2, 3, 0] rfl ?_
    exact s_ev (fun _ _ q => q)
def X12_agreed_x94 (l : Launch) (n0 S0 : Nat) (mo : Nat) (h : aH) (v1 : Int32) (v2 : Int32) : (Int32 × RS) → Option Value → aH → Prop := fun (x : Int32 × RS) r h' => aEv l 163 MX12_agreed n0 S0 214 [(3, .int x.1)] [] (rH mo h x.2) r h'
def X12_agreed_x114 (l : Launch) (n0 S0 : Nat) (mo : Nat) (h : aH) (v1 : Int32) (v2 : Int32) (v3 : Int32) (v4 : Int32) (s : RS) : Bool → Option Value → aH → Prop := fun (x : Bool) r h' => aEv l 163 MX12_agreed n0 S0 163 [(0, .ref mo), (1, .int v1), (2, .int v2), (3, .int v3), (4, .int v4), (5, .int (b2i x))] [] (rH mo h s) r h'
def X12_agreed_j155 (v1 : Int32) (v2 : Int32) (v3 : Int32) (v4 : Int32) (v6 : Int32) (k0 : Bool) (s : RS) : Option ((Bool × Int32) ⊕ Bool) :=
  thn (v6 + 1) fun x10 =>
  some (.inl (k0, x10))
theorem X12_agreed_j155_ok (hh : mo + 18 ≤ h.2.1) (v1 : Int32) (v2 : Int32) (v3 : Int32) (v4 : Int32) (v6 : Int32) (k0 : Bool) (s : RS) : aS l 163 MX12_agreed n0 S0 (a_LΦ (X12_agreed_x114 l n0 S0 mo h v1 v2 v3 v4 s) l 163 MX12_agreed n0 S0 114 (fun (q : Bool × Int32) => [(0, .ref mo), (1, .int v1), (2, .int v2), (3, .int v3), (4, .int v4), (5, .int (b2i q.1)), (6, .int q.2)]) (fun _ => []) (fun (q : Bool × Int32) => rH mo h s)) 155 [(0, .ref mo), (1, .int v1), (2, .int v2), (3, .int v3), (4, .int v4), (6, .int v6)] [.int (b2i k0)] (rH mo h s) (X12_agreed_j155 v1 v2 v3 v4 v6 k0 s) := by
  unfold X12_agreed_j155
  refine s_istore (lv' := [(5, .int (b2i k0)), (0, .ref mo), (1, .int v1), (2, .int v2), (3, .int v3), (4, .int v4), (6, .int v6)]) (pc := 155) dX12_agreed_155 (by decide) rfl ?_
  refine s_iincT (pc := 157) 6 (lv' := fun x10 => [(6, .int x10), (5, .int (b2i k0)), (0, .ref mo), (1, .int v1), (2, .int v2), (3, .int v3), (4, .int v4)]) dX12_agreed_157 rfl rfl (by decide) (fun _ => rfl) (fun x10 => ?_)
  refine s_goto (tgt := 114) (pc := 160) dX12_agreed_160 (by decide) ?_
  refine s_sub [2, 3, 4, 5, 6, 1, 0] rfl ?_
  exact s_ev (fun _ _ q => q)
def X12_agreed_j154 (v1 : Int32) (v2 : Int32) (v3 : Int32) (v4 : Int32) (v6 : Int32) (s : RS) : Option ((Bool × Int32) ⊕ Bool) :=
  X12_agreed_j155 v1 v2 v3 v4 v6 false s
theorem X12_agreed_j154_ok (hh : mo + 18 ≤ h.2.1) (v1 : Int32) (v2 : Int32) (v3 : Int32) (v4 : Int32) (v6 : Int32) (s : RS) : aS l 163 MX12_agreed n0 S0 (a_LΦ (X12_agreed_x114 l n0 S0 mo h v1 v2 v3 v4 s) l 163 MX12_agreed n0 S0 114 (fun (q : Bool × Int32) => [(0, .ref mo), (1, .int v1), (2, .int v2), (3, .int v3), (4, .int v4), (5, .int (b2i q.1)), (6, .int q.2)]) (fun _ => []) (fun (q : Bool × Int32) => rH mo h s)) 154 [(0, .ref mo), (1, .int v1), (2, .int v2), (3, .int v3), (4, .int v4), (6, .int v6)] [] (rH mo h s) (X12_agreed_j154 v1 v2 v3 v4 v6 s) := by
  unfold X12_agreed_j154
  refine s_iconst (v := 0) (pc := 154) dX12_agreed_154 (by decide) ?_
  exact X12_agreed_j155_ok hh v1 v2 v3 v4 v6 false s
def X12_agreed_b114 (v1 : Int32) (v2 : Int32) (v3 : Int32) (v4 : Int32) (v5 : Bool) (v6 : Int32) (s : RS) : Option ((Bool × Int32) ⊕ Bool) :=
  g_in (1 : Int32) 1800 (
  if (s.2.2.1 4 (1 : Int32).toNatClampNeg) ≤ v6 then
    some (.inr v5)
  else
    if v5 = true then
      g_in ((114 : Int32) + v6) 1800 (
      g_in (114 : Int32) 1800 (
      if (s.2.2.1 4 ((114 : Int32) + v6).toNatClampNeg) = (s.2.2.1 4 (114 : Int32).toNatClampNeg) then
        X12_agreed_j155 v1 v2 v3 v4 v6 true s
      else
        X12_agreed_j154 v1 v2 v3 v4 v6 s))
    else
      X12_agreed_j154 v1 v2 v3 v4 v6 s)
theorem X12_agreed_b114_ok (hh : mo + 18 ≤ h.2.1) (v1 : Int32) (v2 : Int32) (v3 : Int32) (v4 : Int32) (v5 : Bool) (v6 : Int32) (s : RS) : aS l 163 MX12_agreed n0 S0 (a_LΦ (X12_agreed_x114 l n0 S0 mo h v1 v2 v3 v4 s) l 163 MX12_agreed n0 S0 114 (fun (q : Bool × Int32) => [(0, .ref mo), (1, .int v1), (2, .int v2), (3, .int v3), (4, .int v4), (5, .int (b2i q.1)), (6, .int q.2)]) (fun _ => []) (fun (q : Bool × Int32) => rH mo h s)) 114 [(0, .ref mo), (1, .int v1), (2, .int v2), (3, .int v3), (4, .int v4), (5, .int (b2i v5)), (6, .int v6)] [] (rH mo h s) (X12_agreed_b114 v1 v2 v3 v4 v5 v6 s) := by
  unfold X12_agreed_b114
  refine s_iload (pc := 114) 6 dX12_agreed_114 rfl ?_
  refine s_aload_n (pc := 116) 0 dX12_agreed_116 rfl ?_
  refine rg_35 hh (pc := 117) dX12_agreed_117 rfl ?_
  refine s_iconst (v := 1) (pc := 120) dX12_agreed_120 (by decide) ?_
  refine rl_4 hh (pc := 121) dX12_agreed_121 ?_
  refine s_icmp_ge (tgt := 163) (pc := 122) dX12_agreed_122 (by decide) (fun _ => ?_) (fun _ => ?_)
  · refine s_sub [0, 1, 2, 3, 4, 5] rfl ?_
    exact s_ev (fun _ _ q => q)
  · refine s_iload (pc := 125) 5 dX12_agreed_125 rfl ?_
    refine s_if_eqB (tgt := 154) (pc := 127) dX12_agreed_127 (by decide) (fun _ => ?_) (fun _ => ?_)
    · refine s_aload_n (pc := 130) 0 dX12_agreed_130 rfl ?_
      refine rg_35 hh (pc := 131) dX12_agreed_131 rfl ?_
      refine s_bipush (v := 114) (pc := 134) dX12_agreed_134 (by decide) ?_
      refine s_iload (pc := 136) 6 dX12_agreed_136 rfl ?_
      refine s_iadd (pc := 138) dX12_agreed_138 ?_
      refine rl_4 hh (pc := 139) dX12_agreed_139 ?_
      refine s_aload_n (pc := 140) 0 dX12_agreed_140 rfl ?_
      refine rg_35 hh (pc := 141) dX12_agreed_141 rfl ?_
      refine s_bipush (v := 114) (pc := 144) dX12_agreed_144 (by decide) ?_
      refine rl_4 hh (pc := 146) dX12_agreed_146 ?_
      refine s_icmp_ne (tgt := 154) (pc := 147) dX12_agreed_147 (by decide) (fun _ => ?_) (fun _ => ?_)
      · refine s_iconst (v := 1) (pc := 150) dX12_agreed_150 (by decide) ?_
        refine s_goto (tgt := 155) (pc := 151) dX12_agreed_151 (by decide) ?_
        refine s_sub [0, 1, 2, 3, 4, 6] rfl ?_
        exact X12_agreed_j155_ok hh v1 v2 v3 v4 v6 true s
      · refine s_sub [0, 1, 2, 3, 4, 6] rfl ?_
        exact X12_agreed_j154_ok hh v1 v2 v3 v4 v6 s
    · refine s_sub [0, 1, 2, 3, 4, 6] rfl ?_
      exact X12_agreed_j154_ok hh v1 v2 v3 v4 v6 s
def X12_agreed_x179 (l : Launch) (n0 S0 : Nat) (mo : Nat) (h : aH) (v1 : Int32) (v2 : Int32) (v3 : Int32) (v4 : Int32) : RS → Option Value → aH → Prop := fun (x : RS) r h' => aEv l 163 MX12_agreed n0 S0 208 [(0, .ref mo), (1, .int v1), (2, .int v2), (3, .int v3), (4, .int v4)] [] (rH mo h x) r h'
def X12_agreed_b179 (v1 : Int32) (v2 : Int32) (v3 : Int32) (v4 : Int32) (v6 : Int32) (s : RS) : Option ((Int32 × RS) ⊕ RS) :=
  if (4 : Int32) ≤ v6 then
    some (.inr s)
  else
    g_in v6 4 (
    g_in ((114 : Int32) + v6) 1800 (thn (uA s 4 (upd (s.2.2.1 4) ((114 : Int32) + v6).toNatClampNeg (s.2.2.1 15 v6.toNatClampNeg))) fun s13 =>
    thn (v6 + 1) fun x14 =>
    some (.inl (x14, s13))))
theorem X12_agreed_b179_ok (hh : mo + 18 ≤ h.2.1) (v1 : Int32) (v2 : Int32) (v3 : Int32) (v4 : Int32) (v6 : Int32) (s : RS) : aS l 163 MX12_agreed n0 S0 (a_LΦ (X12_agreed_x179 l n0 S0 mo h v1 v2 v3 v4) l 163 MX12_agreed n0 S0 179 (fun (q : Int32 × RS) => [(0, .ref mo), (1, .int v1), (2, .int v2), (3, .int v3), (4, .int v4), (6, .int q.1)]) (fun _ => []) (fun (q : Int32 × RS) => rH mo h q.2)) 179 [(0, .ref mo), (1, .int v1), (2, .int v2), (3, .int v3), (4, .int v4), (6, .int v6)] [] (rH mo h s) (X12_agreed_b179 v1 v2 v3 v4 v6 s) := by
  unfold X12_agreed_b179
  refine s_iload (pc := 179) 5 dX12_agreed_179 rfl ?_
  refine s_iconst (v := 4) (pc := 181) dX12_agreed_181 (by decide) ?_
  refine s_icmp_ge (tgt := 208) (pc := 182) dX12_agreed_182 (by decide) (fun _ => ?_) (fun _ => ?_)
  · refine s_sub [0, 1, 2, 3, 4] rfl ?_
    exact s_ev (fun _ _ q => q)
  · refine s_aload_n (pc := 185) 0 dX12_agreed_185 rfl ?_
    refine rg_35 hh (pc := 186) dX12_agreed_186 rfl ?_
    refine s_bipush (v := 114) (pc := 189) dX12_agreed_189 (by decide) ?_
    refine s_iload (pc := 191) 5 dX12_agreed_191 rfl ?_
    refine s_iadd (pc := 193) dX12_agreed_193 ?_
    refine s_aload_n (pc := 194) 0 dX12_agreed_194 rfl ?_
    refine rg_69 hh (pc := 195) dX12_agreed_195 rfl ?_
    refine s_iload (pc := 198) 5 dX12_agreed_198 rfl ?_
    refine rl_15 hh (pc := 200) dX12_agreed_200 ?_
    refine rs_4 hh (pc := 201) dX12_agreed_201 (fun s13 => ?_)
    refine s_iincT (pc := 202) 5 (lv' := fun x14 => [(6, .int x14), (0, .ref mo), (1, .int v1), (2, .int v2), (3, .int v3), (4, .int v4)]) dX12_agreed_202 rfl rfl (by decide) (fun _ => rfl) (fun x14 => ?_)
    refine s_goto (tgt := 179) (pc := 205) dX12_agreed_205 (by decide) ?_
    refine s_sub [1, 2, 3, 4, 5, 0] rfl ?_
    exact s_ev (fun _ _ q => q)
def X12_agreed_j174 (v1 : Int32) (v2 : Int32) (v4 : Int32) (k0 : Int32) (k1 : Bool) (s : RS) : Option ((Int32 × Int32 × RS) ⊕ (Int32 × RS)) :=
  thn (k0 + (b2i k1)) fun x12 =>
  (a_loop (fun (q : Int32 × RS) => X12_agreed_b179 v1 v2 x12 v4 q.1 q.2) FU ((0 : Int32), s)).bind fun (t15 : RS) =>
    thn (v4 + 1) fun x16 =>
    some (.inl (x12, x16, t15))
theorem X12_agreed_j174_ok (hh : mo + 18 ≤ h.2.1) (v1 : Int32) (v2 : Int32) (v4 : Int32) (k0 : Int32) (k1 : Bool) (s : RS) : aS l 163 MX12_agreed n0 S0 (a_LΦ (X12_agreed_x94 l n0 S0 mo h v1 v2) l 163 MX12_agreed n0 S0 94 (fun (q : Int32 × Int32 × RS) => [(0, .ref mo), (1, .int v1), (2, .int v2), (3, .int q.1), (4, .int q.2.1)]) (fun _ => []) (fun (q : Int32 × Int32 × RS) => rH mo h q.2.2)) 174 [(0, .ref mo), (1, .int v1), (2, .int v2), (4, .int v4)] [.int (b2i k1), .int k0] (rH mo h s) (X12_agreed_j174 v1 v2 v4 k0 k1 s) := by
  unfold X12_agreed_j174
  refine s_iadd (pc := 174) dX12_agreed_174 ?_
  refine s_istore_nT (lv' := fun x12 => [(3, .int x12), (0, .ref mo), (1, .int v1), (2, .int v2), (4, .int v4)]) (pc := 175) dX12_agreed_175 (by decide) (fun _ => rfl) (fun x12 => ?_)
  refine s_iconst (v := 0) (pc := 176) dX12_agreed_176 (by decide) ?_
  refine s_istore (lv' := [(6, .int 0), (3, .int x12), (0, .ref mo), (1, .int v1), (2, .int v2), (4, .int v4)]) (pc := 177) dX12_agreed_177 (by decide) rfl ?_
  refine s_bind (Ψ := X12_agreed_x179 l n0 S0 mo h v1 v2 x12 v4) ?_ ?_
  · refine s_sub [2, 3, 4, 1, 5, 0] rfl ?_
    exact s_loop (lvf := fun (q : Int32 × RS) => [(0, .ref mo), (1, .int v1), (2, .int v2), (3, .int x12), (4, .int v4), (6, .int q.1)]) (stf := fun _ => []) (hf := fun (q : Int32 × RS) => rH mo h q.2) (fun q => X12_agreed_b179_ok hh v1 v2 x12 v4 q.1 q.2) FU ((0 : Int32), s)
  · intro t15 z r h' hz hr
    refine (?_ : aS l 163 MX12_agreed n0 S0 (a_LΦ (X12_agreed_x94 l n0 S0 mo h v1 v2) l 163 MX12_agreed n0 S0 94 (fun (q : Int32 × Int32 × RS) => [(0, .ref mo), (1, .int v1), (2, .int v2), (3, .int q.1), (4, .int q.2.1)]) (fun _ => []) (fun (q : Int32 × Int32 × RS) => rH mo h q.2.2)) 208 [(0, .ref mo), (1, .int v1), (2, .int v2), (3, .int x12), (4, .int v4)] [] (rH mo h t15) _) z hz r h' hr
    refine s_iincT (pc := 208) 4 (lv' := fun x16 => [(4, .int x16), (0, .ref mo), (1, .int v1), (2, .int v2), (3, .int x12)]) dX12_agreed_208 rfl rfl (by decide) (fun _ => rfl) (fun x16 => ?_)
    refine s_goto (tgt := 94) (pc := 211) dX12_agreed_211 (by decide) ?_
    refine s_sub [1, 2, 3, 4, 0] rfl ?_
    exact s_ev (fun _ _ q => q)
def X12_agreed_b94 (v1 : Int32) (v2 : Int32) (v3 : Int32) (v4 : Int32) (s : RS) : Option ((Int32 × Int32 × RS) ⊕ (Int32 × RS)) :=
  if v2 ≤ v4 then
    some (.inr (v3, s))
  else
    (pX12_run s (v1 + v4)).bind fun x9 =>
    (a_loop (fun (q : Bool × Int32) => X12_agreed_b114 v1 v2 v3 v4 q.1 q.2 x9) FU (true, (1 : Int32))).bind fun (t11 : Bool) =>
      if t11 = true then
        X12_agreed_j174 v1 v2 v4 v3 true x9
      else
        X12_agreed_j174 v1 v2 v4 v3 false x9
theorem X12_agreed_b94_ok (hh : mo + 18 ≤ h.2.1) (v1 : Int32) (v2 : Int32) (v3 : Int32) (v4 : Int32) (s : RS) : aS l 163 MX12_agreed n0 S0 (a_LΦ (X12_agreed_x94 l n0 S0 mo h v1 v2) l 163 MX12_agreed n0 S0 94 (fun (q : Int32 × Int32 × RS) => [(0, .ref mo), (1, .int v1), (2, .int v2), (3, .int q.1), (4, .int q.2.1)]) (fun _ => []) (fun (q : Int32 × Int32 × RS) => rH mo h q.2.2)) 94 [(0, .ref mo), (1, .int v1), (2, .int v2), (3, .int v3), (4, .int v4)] [] (rH mo h s) (X12_agreed_b94 v1 v2 v3 v4 s) := by
  unfold X12_agreed_b94
  refine s_iload (pc := 94) 4 dX12_agreed_94 rfl ?_
  refine s_iload_n (pc := 96) 2 dX12_agreed_96 rfl ?_
  refine s_icmp_ge (tgt := 214) (pc := 97) dX12_agreed_97 (by decide) (fun _ => ?_) (fun _ => ?_)
  · refine s_sub [3] rfl ?_
    exact s_ev (fun _ _ q => q)
  · refine s_aload_n (pc := 100) 0 dX12_agreed_100 rfl ?_
    refine s_iload_n (pc := 101) 1 dX12_agreed_101 rfl ?_
    refine s_iload (pc := 102) 4 dX12_agreed_102 rfl ?_
    refine s_iadd (pc := 104) dX12_agreed_104 ?_
    refine s_callV (M := MX12_agreed) (As := [.int (v1 + v4)]) (st := []) (Ψ := fun (x : RS) => (none, rH mo h x)) cv_X12_488 (by decide) (pc := 105) dX12_agreed_105 r_0 (r_lt (k := 0) hh (by decide)) rfl (Nat.le_of_ble_eq_true rfl) (fun x hx => pX12_run_ok hh s (v1 + v4) x hx) rfl (fun x9 _ => ?_)
    refine s_iconst (v := 1) (pc := 108) dX12_agreed_108 (by decide) ?_
    refine s_istore (lv' := [(5, .int 1), (0, .ref mo), (1, .int v1), (2, .int v2), (3, .int v3), (4, .int v4)]) (pc := 109) dX12_agreed_109 (by decide) rfl ?_
    refine s_iconst (v := 1) (pc := 111) dX12_agreed_111 (by decide) ?_
    refine s_istore (lv' := [(6, .int 1), (5, .int 1), (0, .ref mo), (1, .int v1), (2, .int v2), (3, .int v3), (4, .int v4)]) (pc := 112) dX12_agreed_112 (by decide) rfl ?_
    refine s_bind (Ψ := X12_agreed_x114 l n0 S0 mo h v1 v2 v3 v4 x9) ?_ ?_
    · refine s_sub [2, 3, 4, 5, 6, 1, 0] rfl ?_
      exact s_loop (lvf := fun (q : Bool × Int32) => [(0, .ref mo), (1, .int v1), (2, .int v2), (3, .int v3), (4, .int v4), (5, .int (b2i q.1)), (6, .int q.2)]) (stf := fun _ => []) (hf := fun (q : Bool × Int32) => rH mo h x9) (fun q => X12_agreed_b114_ok hh v1 v2 v3 v4 q.1 q.2 x9) FU (true, (1 : Int32))
    · intro t11 z r h' hz hr
      refine (?_ : aS l 163 MX12_agreed n0 S0 (a_LΦ (X12_agreed_x94 l n0 S0 mo h v1 v2) l 163 MX12_agreed n0 S0 94 (fun (q : Int32 × Int32 × RS) => [(0, .ref mo), (1, .int v1), (2, .int v2), (3, .int q.1), (4, .int q.2.1)]) (fun _ => []) (fun (q : Int32 × Int32 × RS) => rH mo h q.2.2)) 163 [(0, .ref mo), (1, .int v1), (2, .int v2), (3, .int v3), (4, .int v4), (5, .int (b2i t11))] [] (rH mo h x9) _) z hz r h' hr
      refine s_iload_n (pc := 163) 3 dX12_agreed_163 rfl ?_
      refine s_iload (pc := 164) 5 dX12_agreed_164 rfl ?_
      refine s_if_eqB (tgt := 173) (pc := 166) dX12_agreed_166 (by decide) (fun _ => ?_) (fun _ => ?_)
      · refine s_iconst (v := 1) (pc := 169) dX12_agreed_169 (by decide) ?_
        refine s_goto (tgt := 174) (pc := 170) dX12_agreed_170 (by decide) ?_
        refine s_sub [0, 1, 2, 4] rfl ?_
        exact X12_agreed_j174_ok hh v1 v2 v4 v3 true x9
      · refine s_iconst (v := 0) (pc := 173) dX12_agreed_173 (by decide) ?_
        refine s_sub [0, 1, 2, 4] rfl ?_
        exact X12_agreed_j174_ok hh v1 v2 v4 v3 false x9
def pX12_agreed (s : RS) (a0 : Int32) (a1 : Int32) : Option (Int32 × RS) :=
  thn (uI s 1 (0 : Int32)) fun s1 =>
  thn (uI s1 0 (0 : Int32)) fun s2 =>
  (pX12_isIn a1.toInt64 (1 : Int64) (30 : Int64)).bind fun x3 =>
  if x3 = true then
    (pX12_isIn a0.toInt64 (0 : Int64) (((10000 : Int32) - a1).toInt64)).bind fun x5 =>
    if x5 = true then
      g_in (135 : Int32) 1800 (
      if (s2.2.2.1 4 (135 : Int32).toNatClampNeg) = 0 then
        (pX12_refuse s2 (8 : Int32)).bind fun x18 =>
        some (x18.1, x18.2)
      else
        (a_loop (fun (q : Int32 × RS) => X12_agreed_b63 a0 a1 q.1 q.2) FU ((0 : Int32), s2)).bind fun (t8 : RS) =>
          (a_loop (fun (q : Int32 × Int32 × RS) => X12_agreed_b94 a0 a1 q.1 q.2.1 q.2.2) FU ((0 : Int32), (0 : Int32), t8)).bind fun (t17 : Int32 × RS) =>
            some (t17.1, t17.2))
    else
      X12_agreed_j37 s2
  else
    X12_agreed_j37 s2
theorem pX12_agreed_w (hh : mo + 18 ≤ h.2.1) (s : RS) (a0 : Int32) (a1 : Int32) : aS l 163 MX12_agreed n0 S0 (oΦ (fun (x : Int32 × RS) => (some (.int x.1), rH mo h x.2))) 0 [(0, .ref mo), (1, .int a0), (2, .int a1)] [] (rH mo h s) (pX12_agreed s a0 a1) := by
  unfold pX12_agreed
  refine s_aload_n (pc := 0) 0 dX12_agreed_0 rfl ?_
  refine s_iconst (v := 0) (pc := 1) dX12_agreed_1 (by decide) ?_
  refine rp_75 hh (pc := 2) dX12_agreed_2 rfl (fun s1 => ?_)
  refine s_aload_n (pc := 5) 0 dX12_agreed_5 rfl ?_
  refine s_iconst (v := 0) (pc := 6) dX12_agreed_6 (by decide) ?_
  refine rp_78 hh (pc := 7) dX12_agreed_7 rfl (fun s2 => ?_)
  refine s_iload_n (pc := 10) 2 dX12_agreed_10 rfl ?_
  refine s_i2l (pc := 11) dX12_agreed_11 ?_
  refine s_lconst (v := 1) (pc := 12) dX12_agreed_12 (by decide) ?_
  refine s_ldc2 (v := 30) (pc := 13) dX12_agreed_13 wk_X12_496 ?_
  refine s_callS (M := MX12_agreed) (As := [.long a1.toInt64, .long (1 : Int64), .long (30 : Int64)]) (st := []) (Ψ := fun (x : Bool) => (some (.int (b2i x)), rH mo h s2)) cs_X12_110 (by decide) (pc := 16) dX12_agreed_16 rfl (Nat.le_of_ble_eq_true rfl) (fun x hx => pX12_isIn_ok a1.toInt64 (1 : Int64) (30 : Int64) x hx) rfl (fun x3 _ => ?_)
  refine s_if_eqB (tgt := 37) (pc := 19) dX12_agreed_19 (by decide) (fun _ => ?_) (fun _ => ?_)
  · refine s_iload_n (pc := 22) 1 dX12_agreed_22 rfl ?_
    refine s_i2l (pc := 23) dX12_agreed_23 ?_
    refine s_lconst (v := 0) (pc := 24) dX12_agreed_24 (by decide) ?_
    refine s_sipush (v := 10000) (pc := 25) dX12_agreed_25 (by decide) ?_
    refine s_iload_n (pc := 28) 2 dX12_agreed_28 rfl ?_
    refine s_isub (pc := 29) dX12_agreed_29 ?_
    refine s_i2l (pc := 30) dX12_agreed_30 ?_
    refine s_callS (M := MX12_agreed) (As := [.long a0.toInt64, .long (0 : Int64), .long ((10000 : Int32) - a1).toInt64]) (st := []) (Ψ := fun (x : Bool) => (some (.int (b2i x)), rH mo h s2)) cs_X12_110 (by decide) (pc := 31) dX12_agreed_31 rfl (Nat.le_of_ble_eq_true rfl) (fun x hx => pX12_isIn_ok a0.toInt64 (0 : Int64) (((10000 : Int32) - a1).toInt64) x hx) rfl (fun x5 _ => ?_)
    refine s_if_neB (tgt := 43) (pc := 34) dX12_agreed_34 (by decide) (fun _ => ?_) (fun _ => ?_)
    · refine s_aload_n (pc := 43) 0 dX12_agreed_43 rfl ?_
      refine rg_35 hh (pc := 44) dX12_agreed_44 rfl ?_
      refine s_sipush (v := 135) (pc := 47) dX12_agreed_47 (by decide) ?_
      refine rl_4 hh (pc := 50) dX12_agreed_50 ?_
      refine s_if_ne (tgt := 61) (pc := 51) dX12_agreed_51 (by decide) (fun _ => ?_) (fun _ => ?_)
      · refine s_aload_n (pc := 54) 0 dX12_agreed_54 rfl ?_
        refine s_bipush (v := 8) (pc := 55) dX12_agreed_55 (by decide) ?_
        refine s_callV (M := MX12_agreed) (As := [.int 8]) (st := []) (Ψ := fun (x : Int32 × RS) => (some (.int x.1), rH mo h x.2)) cv_X12_299 (by decide) (pc := 57) dX12_agreed_57 r_0 (r_lt (k := 0) hh (by decide)) rfl (Nat.le_of_ble_eq_true rfl) (fun x hx => pX12_refuse_ok hh s2 (8 : Int32) x hx) rfl (fun x18 _ => ?_)
        exact s_iret (pc := 60) dX12_agreed_60 rfl (fun _ _ q => q)
      · refine s_iconst (v := 0) (pc := 61) dX12_agreed_61 (by decide) ?_
        refine s_istore_n (lv' := [(3, .int 0), (0, .ref mo), (1, .int a0), (2, .int a1)]) (pc := 62) dX12_agreed_62 (by decide) rfl ?_
        refine s_bind (Ψ := X12_agreed_x63 l n0 S0 mo h a0 a1) ?_ ?_
        · refine s_sub [1, 2, 3, 0] rfl ?_
          exact s_loop (lvf := fun (q : Int32 × RS) => [(0, .ref mo), (1, .int a0), (2, .int a1), (3, .int q.1)]) (stf := fun _ => []) (hf := fun (q : Int32 × RS) => rH mo h q.2) (fun q => X12_agreed_b63_ok hh a0 a1 q.1 q.2) FU ((0 : Int32), s2)
        · intro t8 z r h' hz hr
          refine (?_ : aS l 163 MX12_agreed n0 S0 (oΦ (fun (x : Int32 × RS) => (some (.int x.1), rH mo h x.2))) 89 [(0, .ref mo), (1, .int a0), (2, .int a1)] [] (rH mo h t8) _) z hz r h' hr
          refine s_iconst (v := 0) (pc := 89) dX12_agreed_89 (by decide) ?_
          refine s_istore_n (lv' := [(3, .int 0), (0, .ref mo), (1, .int a0), (2, .int a1)]) (pc := 90) dX12_agreed_90 (by decide) rfl ?_
          refine s_iconst (v := 0) (pc := 91) dX12_agreed_91 (by decide) ?_
          refine s_istore (lv' := [(4, .int 0), (3, .int 0), (0, .ref mo), (1, .int a0), (2, .int a1)]) (pc := 92) dX12_agreed_92 (by decide) rfl ?_
          refine s_bind (Ψ := X12_agreed_x94 l n0 S0 mo h a0 a1) ?_ ?_
          · refine s_sub [2, 3, 4, 1, 0] rfl ?_
            exact s_loop (lvf := fun (q : Int32 × Int32 × RS) => [(0, .ref mo), (1, .int a0), (2, .int a1), (3, .int q.1), (4, .int q.2.1)]) (stf := fun _ => []) (hf := fun (q : Int32 × Int32 × RS) => rH mo h q.2.2) (fun q => X12_agreed_b94_ok hh a0 a1 q.1 q.2.1 q.2.2) FU ((0 : Int32), (0 : Int32), t8)
          · intro t17 z r h' hz hr
            refine (?_ : aS l 163 MX12_agreed n0 S0 (oΦ (fun (x : Int32 × RS) => (some (.int x.1), rH mo h x.2))) 214 [(3, .int t17.1)] [] (rH mo h t17.2) _) z hz r h' hr
            refine s_iload_n (pc := 214) 0 dX12_agreed_214 rfl ?_
            exact s_iret (pc := 215) dX12_agreed_215 rfl (fun _ _ q => q)
    · refine s_sub [0] rfl ?_
      exact X12_agreed_j37_ok hh s2
  · refine s_sub [0] rfl ?_
    exact X12_agreed_j37_ok hh s2
theorem pX12_agreed_ok (hh : mo + 18 ≤ h.2.1) (s : RS) (a0 : Int32) (a1 : Int32) : ∀ x, pX12_agreed s a0 a1 = some x → aMet l 163 yX12_agreed cX12_agreed 7 (some .int) [.ref mo, .int a0, .int a1] (rH mo h s) (some (.int x.1)) (rH mo h x.2) := fun x hx => a_meth (ini := false) (y := yX12_agreed) (by decide +kernel) (fun q => by cases q) (fun _ => Nat.le_of_ble_eq_true rfl) (pX12_agreed_w hh s a0 a1) x hx _ _ ⟨rfl, rfl⟩
end
section
variable {l : Launch} {n0 S0 : Nat} {mo : Nat} {h : aH}
abbrev MX12_seal : aM := (cX12_seal, RX12, 8, (some .int), false)
def X12_seal_x141 (l : Launch) (n0 S0 : Nat) (mo : Nat) (h : aH) (v1 : Int32) (v2 : Int32) : (Int64 × Int32 × RS) → Option Value → aH → Prop := fun (x : Int64 × Int32 × RS) r h' => aEv l 2 MX12_seal n0 S0 222 [(0, .ref mo), (1, .int v1), (4, .long x.1), (6, .int x.2.1)] [] (rH mo h x.2.2) r h'
def X12_seal_j216 (v1 : Int32) (v2 : Int32) (v4 : Int64) (v6 : Int32) (v7 : Int32) (s : RS) : Option ((Int64 × Int32 × Int32 × RS) ⊕ (Int64 × Int32 × RS)) :=
  thn (v7 + 1) fun x16 =>
  some (.inl (v4, v6, x16, s))
theorem X12_seal_j216_ok (hh : mo + 18 ≤ h.2.1) (v1 : Int32) (v2 : Int32) (v4 : Int64) (v6 : Int32) (v7 : Int32) (s : RS) : aS l 2 MX12_seal n0 S0 (a_LΦ (X12_seal_x141 l n0 S0 mo h v1 v2) l 2 MX12_seal n0 S0 141 (fun (q : Int64 × Int32 × Int32 × RS) => [(0, .ref mo), (1, .int v1), (2, .int v2), (4, .long q.1), (6, .int q.2.1), (7, .int q.2.2.1)]) (fun _ => []) (fun (q : Int64 × Int32 × Int32 × RS) => rH mo h q.2.2.2)) 216 [(0, .ref mo), (1, .int v1), (2, .int v2), (4, .long v4), (6, .int v6), (7, .int v7)] [] (rH mo h s) (X12_seal_j216 v1 v2 v4 v6 v7 s) := by
  unfold X12_seal_j216
  refine s_iincT (pc := 216) 5 (lv' := fun x16 => [(7, .int x16), (0, .ref mo), (1, .int v1), (2, .int v2), (4, .long v4), (6, .int v6)]) dX12_seal_216 rfl rfl (by decide) (fun _ => rfl) (fun x16 => ?_)
  refine s_goto (tgt := 141) (pc := 219) dX12_seal_219 (by decide) ?_
  refine s_sub [1, 2, 3, 4, 5, 0] rfl ?_
  exact s_ev (fun _ _ q => q)
def X12_seal_b141 (v1 : Int32) (v2 : Int32) (v4 : Int64) (v6 : Int32) (v7 : Int32) (s : RS) : Option ((Int64 × Int32 × Int32 × RS) ⊕ (Int64 × Int32 × RS)) :=
  g_in (0 : Int32) 1800 (
  if (s.2.2.1 4 (0 : Int32).toNatClampNeg) ≤ v7 then
    some (.inr (v4, v6, s))
  else
    (pX12_hasIn v2 v7).bind fun x10 =>
    if x10 = true then
      (pX12_kind s (0 : Int32) v7).bind fun x11 =>
      g_in (((60 : Int32) * v1) + v6) 240 (thn (uB s 2 (vp_updL (s.2.2.2 2) (((60 : Int32) * v1) + v6).toNatClampNeg (x11.toInt64 + ((5 : Int64) * v7.toInt64)))) fun s12 =>
      (pX12_kind s12 (0 : Int32) v7).bind fun x13 =>
      thn (v4 + (x13.toInt64 + ((5 : Int64) * v7.toInt64))) fun x14 =>
      thn (v6 + 1) fun x15 =>
      X12_seal_j216 v1 v2 x14 x15 v7 s12)
    else
      X12_seal_j216 v1 v2 v4 v6 v7 s)
theorem X12_seal_b141_ok (hh : mo + 18 ≤ h.2.1) (v1 : Int32) (v2 : Int32) (v4 : Int64) (v6 : Int32) (v7 : Int32) (s : RS) : aS l 2 MX12_seal n0 S0 (a_LΦ (X12_seal_x141 l n0 S0 mo h v1 v2) l 2 MX12_seal n0 S0 141 (fun (q : Int64 × Int32 × Int32 × RS) => [(0, .ref mo), (1, .int v1), (2, .int v2), (4, .long q.1), (6, .int q.2.1), (7, .int q.2.2.1)]) (fun _ => []) (fun (q : Int64 × Int32 × Int32 × RS) => rH mo h q.2.2.2)) 141 [(0, .ref mo), (1, .int v1), (2, .int v2), (4, .long v4), (6, .int v6), (7, .int v7)] [] (rH mo h s) (X12_seal_b141 v1 v2 v4 v6 v7 s) := by
  unfold X12_seal_b141
  refine s_iload (pc := 141) 5 dX12_seal_141 rfl ?_
  refine s_aload_n (pc := 143) 0 dX12_seal_143 rfl ?_
  refine rg_35 hh (pc := 144) dX12_seal_144 rfl ?_
  refine s_iconst (v := 0) (pc := 147) dX12_seal_147 (by decide) ?_
  refine rl_4 hh (pc := 148) dX12_seal_148 ?_
  refine s_icmp_ge (tgt := 222) (pc := 149) dX12_seal_149 (by decide) (fun _ => ?_) (fun _ => ?_)
  · refine s_sub [0, 1, 3, 4] rfl ?_
    exact s_ev (fun _ _ q => q)
  · refine s_iload_n (pc := 152) 2 dX12_seal_152 rfl ?_
    refine s_iload (pc := 153) 5 dX12_seal_153 rfl ?_
    refine s_callS (M := MX12_seal) (As := [.int v2, .int v7]) (st := []) (Ψ := fun (x : Bool) => (some (.int (b2i x)), rH mo h s)) cs_X12_302 (by decide) (pc := 155) dX12_seal_155 rfl (Nat.le_of_ble_eq_true rfl) (fun x hx => pX12_hasIn_ok v2 v7 x hx) rfl (fun x10 _ => ?_)
    refine s_if_neB (tgt := 164) (pc := 158) dX12_seal_158 (by decide) (fun _ => ?_) (fun _ => ?_)
    · refine s_aload_n (pc := 164) 0 dX12_seal_164 rfl ?_
      refine rg_20 hh (pc := 165) dX12_seal_165 rfl ?_
      refine s_bipush (v := 60) (pc := 168) dX12_seal_168 (by decide) ?_
      refine s_iload_n (pc := 170) 1 dX12_seal_170 rfl ?_
      refine s_imul (pc := 171) dX12_seal_171 ?_
      refine s_iload (pc := 172) 4 dX12_seal_172 rfl ?_
      refine s_iadd (pc := 174) dX12_seal_174 ?_
      refine s_aload_n (pc := 175) 0 dX12_seal_175 rfl ?_
      refine s_iconst (v := 0) (pc := 176) dX12_seal_176 (by decide) ?_
      refine s_iload (pc := 177) 5 dX12_seal_177 rfl ?_
      refine s_callV (M := MX12_seal) (As := [.int 0, .int v7]) (st := [.int (((60 : Int32) * v1) + v6), .ref (mo + 3)]) (Ψ := fun (x : Int32) => (some (.int x), rH mo h s)) cv_X12_239 (by decide) (pc := 179) dX12_seal_179 r_0 (r_lt (k := 0) hh (by decide)) rfl (Nat.le_of_ble_eq_true rfl) (fun x hx => pX12_kind_ok hh s (0 : Int32) v7 x hx) rfl (fun x11 _ => ?_)
      refine s_i2l (pc := 182) dX12_seal_182 ?_
      refine s_ldc2 (v := 5) (pc := 183) dX12_seal_183 wk_X12_498 ?_
      refine s_iload (pc := 186) 5 dX12_seal_186 rfl ?_
      refine s_i2l (pc := 188) dX12_seal_188 ?_
      refine s_lmul (pc := 189) dX12_seal_189 ?_
      refine s_ladd (pc := 190) dX12_seal_190 ?_
      refine rs_2 hh (pc := 191) dX12_seal_191 (fun s12 => ?_)
      refine s_lload (pc := 192) 3 dX12_seal_192 rfl ?_
      refine s_aload_n (pc := 194) 0 dX12_seal_194 rfl ?_
      refine s_iconst (v := 0) (pc := 195) dX12_seal_195 (by decide) ?_
      refine s_iload (pc := 196) 5 dX12_seal_196 rfl ?_
      refine s_callV (M := MX12_seal) (As := [.int 0, .int v7]) (st := [.long v4]) (Ψ := fun (x : Int32) => (some (.int x), rH mo h s12)) cv_X12_239 (by decide) (pc := 198) dX12_seal_198 r_0 (r_lt (k := 0) hh (by decide)) rfl (Nat.le_of_ble_eq_true rfl) (fun x hx => pX12_kind_ok hh s12 (0 : Int32) v7 x hx) rfl (fun x13 _ => ?_)
      refine s_i2l (pc := 201) dX12_seal_201 ?_
      refine s_ldc2 (v := 5) (pc := 202) dX12_seal_202 wk_X12_498 ?_
      refine s_iload (pc := 205) 5 dX12_seal_205 rfl ?_
      refine s_i2l (pc := 207) dX12_seal_207 ?_
      refine s_lmul (pc := 208) dX12_seal_208 ?_
      refine s_ladd (pc := 209) dX12_seal_209 ?_
      refine s_ladd (pc := 210) dX12_seal_210 ?_
      refine s_lstoreT (lv' := fun x14 => [(4, .long x14), (0, .ref mo), (1, .int v1), (2, .int v2), (6, .int v6), (7, .int v7)]) (pc := 211) dX12_seal_211 (by decide) (fun _ => rfl) (fun x14 => ?_)
      refine s_iincT (pc := 213) 4 (lv' := fun x15 => [(6, .int x15), (4, .long x14), (0, .ref mo), (1, .int v1), (2, .int v2), (7, .int v7)]) dX12_seal_213 rfl rfl (by decide) (fun _ => rfl) (fun x15 => ?_)
      refine s_sub [2, 3, 4, 1, 0, 5] rfl ?_
      exact X12_seal_j216_ok hh v1 v2 x14 x15 v7 s12
    · refine s_goto (tgt := 216) (pc := 161) dX12_seal_161 (by decide) ?_
      exact X12_seal_j216_ok hh v1 v2 v4 v6 v7 s
def pX12_seal (s : RS) (a0 : Int32) (a1 : Int32) : Option (Int32 × RS) :=
  thn (uI s 1 (0 : Int32)) fun s1 =>
  thn (uI s1 0 (0 : Int32)) fun s2 =>
  (pX12_isTray s2 a0).bind fun x3 =>
  if x3 = true then
    (pX12_isSet s2 a1).bind fun x4 =>
    if x4 = true then
      g_in a0 4 (
      if 0 ≤ (s2.2.2.1 1 a0.toNatClampNeg) then
        (pX12_bits a1).bind fun x5 =>
        g_in a0 4 (
        if (x5 + (3 : Int32)) ≤ (s2.2.2.1 1 a0.toNatClampNeg) then
          g_in a0 4 (
          if (s2.2.2.1 0 a0.toNatClampNeg) = 0 then
            (pX12_refuse s2 (5 : Int32)).bind fun x20 =>
            some (x20.1, x20.2)
          else
            (pX12_lackOf s2 a1).bind fun x6 =>
            if x6 = 0 then
              g_in ((60 : Int32) * a0) 240 (thn (uB s2 2 (vp_updL (s2.2.2.2 2) ((60 : Int32) * a0).toNatClampNeg (1 : Int64))) fun s7 =>
              g_in (((60 : Int32) * a0) + (1 : Int32)) 240 (thn (uB s7 2 (vp_updL (s7.2.2.2 2) (((60 : Int32) * a0) + (1 : Int32)).toNatClampNeg x5.toInt64)) fun s8 =>
              thn ((1 : Int64) + x5.toInt64) fun x9 =>
              (a_loop (fun (q : Int64 × Int32 × Int32 × RS) => X12_seal_b141 a0 a1 q.1 q.2.1 q.2.2.1 q.2.2.2) FU (x9, (2 : Int32), (0 : Int32), s8)).bind fun (t17 : Int64 × Int32 × RS) =>
                g_in (((60 : Int32) * a0) + t17.2.1) 240 (thn (uB t17.2.2 2 (vp_updL (t17.2.2.2.2.2 2) (((60 : Int32) * a0) + t17.2.1).toNatClampNeg (t17.1 - t17.1 / (251 : Int64) * (251 : Int64)))) fun s18 =>
                some ((t17.2.1 + (1 : Int32)), s18))))
            else
              (pX12_refuse s2 (9 : Int32)).bind fun x19 =>
              some (x19.1, x19.2))
        else
          (pX12_refuse s2 (4 : Int32)).bind fun x21 =>
          some (x21.1, x21.2))
      else
        (pX12_refuse s2 (3 : Int32)).bind fun x22 =>
        some (x22.1, x22.2))
    else
      (pX12_refuse s2 (2 : Int32)).bind fun x23 =>
      some (x23.1, x23.2)
  else
    (pX12_refuse s2 (1 : Int32)).bind fun x24 =>
    some (x24.1, x24.2)
theorem pX12_seal_w (hh : mo + 18 ≤ h.2.1) (s : RS) (a0 : Int32) (a1 : Int32) : aS l 2 MX12_seal n0 S0 (oΦ (fun (x : Int32 × RS) => (some (.int x.1), rH mo h x.2))) 0 [(0, .ref mo), (1, .int a0), (2, .int a1)] [] (rH mo h s) (pX12_seal s a0 a1) := by
  unfold pX12_seal
  refine s_aload_n (pc := 0) 0 dX12_seal_0 rfl ?_
  refine s_iconst (v := 0) (pc := 1) dX12_seal_1 (by decide) ?_
  refine rp_75 hh (pc := 2) dX12_seal_2 rfl (fun s1 => ?_)
  refine s_aload_n (pc := 5) 0 dX12_seal_5 rfl ?_
  refine s_iconst (v := 0) (pc := 6) dX12_seal_6 (by decide) ?_
  refine rp_78 hh (pc := 7) dX12_seal_7 rfl (fun s2 => ?_)
  refine s_aload_n (pc := 10) 0 dX12_seal_10 rfl ?_
  refine s_iload_n (pc := 11) 1 dX12_seal_11 rfl ?_
  refine s_callV (M := MX12_seal) (As := [.int a0]) (st := []) (Ψ := fun (x : Bool) => (some (.int (b2i x)), rH mo h s2)) cv_X12_388 (by decide) (pc := 12) dX12_seal_12 r_0 (r_lt (k := 0) hh (by decide)) rfl (Nat.le_of_ble_eq_true rfl) (fun x hx => pX12_isTray_ok hh s2 a0 x hx) rfl (fun x3 _ => ?_)
  refine s_if_neB (tgt := 24) (pc := 15) dX12_seal_15 (by decide) (fun _ => ?_) (fun _ => ?_)
  · refine s_aload_n (pc := 24) 0 dX12_seal_24 rfl ?_
    refine s_iload_n (pc := 25) 2 dX12_seal_25 rfl ?_
    refine s_callV (M := MX12_seal) (As := [.int a1]) (st := []) (Ψ := fun (x : Bool) => (some (.int (b2i x)), rH mo h s2)) cv_X12_319 (by decide) (pc := 26) dX12_seal_26 r_0 (r_lt (k := 0) hh (by decide)) rfl (Nat.le_of_ble_eq_true rfl) (fun x hx => pX12_isSet_ok hh s2 a1 x hx) rfl (fun x4 _ => ?_)
    refine s_if_neB (tgt := 38) (pc := 29) dX12_seal_29 (by decide) (fun _ => ?_) (fun _ => ?_)
    · refine s_aload_n (pc := 38) 0 dX12_seal_38 rfl ?_
      refine rg_17 hh (pc := 39) dX12_seal_39 rfl ?_
      refine s_iload_n (pc := 42) 1 dX12_seal_42 rfl ?_
      refine rl_1 hh (pc := 43) dX12_seal_43 ?_
      refine s_if_ge (tgt := 53) (pc := 44) dX12_seal_44 (by decide) (fun _ => ?_) (fun _ => ?_)
      · refine s_iload_n (pc := 53) 2 dX12_seal_53 rfl ?_
        refine s_callS (M := MX12_seal) (As := [.int a1]) (st := []) (Ψ := fun (x : Int32) => (some (.int x), rH mo h s2)) cs_X12_325 (by decide) (pc := 54) dX12_seal_54 rfl (Nat.le_of_ble_eq_true rfl) (fun x hx => pX12_bits_ok a1 x hx) rfl (fun x5 _ => ?_)
        refine s_istore_n (lv' := [(3, .int x5), (0, .ref mo), (1, .int a0), (2, .int a1)]) (pc := 57) dX12_seal_57 (by decide) rfl ?_
        refine s_aload_n (pc := 58) 1 dX12_seal_58 rfl ?_
        refine rg_17 hh (pc := 59) dX12_seal_59 rfl ?_
        refine s_iload_n (pc := 62) 2 dX12_seal_62 rfl ?_
        refine rl_1 hh (pc := 63) dX12_seal_63 ?_
        refine s_iload_n (pc := 64) 0 dX12_seal_64 rfl ?_
        refine s_iconst (v := 3) (pc := 65) dX12_seal_65 (by decide) ?_
        refine s_iadd (pc := 66) dX12_seal_66 ?_
        refine s_icmp_ge (tgt := 76) (pc := 67) dX12_seal_67 (by decide) (fun _ => ?_) (fun _ => ?_)
        · refine s_aload_n (pc := 76) 1 dX12_seal_76 rfl ?_
          refine rg_13 hh (pc := 77) dX12_seal_77 rfl ?_
          refine s_iload_n (pc := 80) 2 dX12_seal_80 rfl ?_
          refine rl_0 hh (pc := 81) dX12_seal_81 ?_
          refine s_if_ne (tgt := 91) (pc := 82) dX12_seal_82 (by decide) (fun _ => ?_) (fun _ => ?_)
          · refine s_aload_n (pc := 85) 1 dX12_seal_85 rfl ?_
            refine s_iconst (v := 5) (pc := 86) dX12_seal_86 (by decide) ?_
            refine s_callV (M := MX12_seal) (As := [.int 5]) (st := []) (Ψ := fun (x : Int32 × RS) => (some (.int x.1), rH mo h x.2)) cv_X12_299 (by decide) (pc := 87) dX12_seal_87 r_0 (r_lt (k := 0) hh (by decide)) rfl (Nat.le_of_ble_eq_true rfl) (fun x hx => pX12_refuse_ok hh s2 (5 : Int32) x hx) rfl (fun x20 _ => ?_)
            exact s_iret (pc := 90) dX12_seal_90 rfl (fun _ _ q => q)
          · refine s_aload_n (pc := 91) 1 dX12_seal_91 rfl ?_
            refine s_iload_n (pc := 92) 3 dX12_seal_92 rfl ?_
            refine s_callV (M := MX12_seal) (As := [.int a1]) (st := []) (Ψ := fun (x : Int32) => (some (.int x), rH mo h s2)) cv_X12_322 (by decide) (pc := 93) dX12_seal_93 r_0 (r_lt (k := 0) hh (by decide)) rfl (Nat.le_of_ble_eq_true rfl) (fun x hx => pX12_lackOf_ok hh s2 a1 x hx) rfl (fun x6 _ => ?_)
            refine s_if_eq (tgt := 106) (pc := 96) dX12_seal_96 (by decide) (fun _ => ?_) (fun _ => ?_)
            · refine s_aload_n (pc := 106) 1 dX12_seal_106 rfl ?_
              refine rg_20 hh (pc := 107) dX12_seal_107 rfl ?_
              refine s_bipush (v := 60) (pc := 110) dX12_seal_110 (by decide) ?_
              refine s_iload_n (pc := 112) 2 dX12_seal_112 rfl ?_
              refine s_imul (pc := 113) dX12_seal_113 ?_
              refine s_lconst (v := 1) (pc := 114) dX12_seal_114 (by decide) ?_
              refine rs_2 hh (pc := 115) dX12_seal_115 (fun s7 => ?_)
              refine s_aload_n (pc := 116) 1 dX12_seal_116 rfl ?_
              refine rg_20 hh (pc := 117) dX12_seal_117 rfl ?_
              refine s_bipush (v := 60) (pc := 120) dX12_seal_120 (by decide) ?_
              refine s_iload_n (pc := 122) 2 dX12_seal_122 rfl ?_
              refine s_imul (pc := 123) dX12_seal_123 ?_
              refine s_iconst (v := 1) (pc := 124) dX12_seal_124 (by decide) ?_
              refine s_iadd (pc := 125) dX12_seal_125 ?_
              refine s_iload_n (pc := 126) 0 dX12_seal_126 rfl ?_
              refine s_i2l (pc := 127) dX12_seal_127 ?_
              refine rs_2 hh (pc := 128) dX12_seal_128 (fun s8 => ?_)
              refine s_lconst (v := 1) (pc := 129) dX12_seal_129 (by decide) ?_
              refine s_iload_n (pc := 130) 0 dX12_seal_130 rfl ?_
              refine s_i2l (pc := 131) dX12_seal_131 ?_
              refine s_ladd (pc := 132) dX12_seal_132 ?_
              refine s_lstoreT (lv' := fun x9 => [(4, .long x9), (3, .int x5), (0, .ref mo), (1, .int a0), (2, .int a1)]) (pc := 133) dX12_seal_133 (by decide) (fun _ => rfl) (fun x9 => ?_)
              refine s_iconst (v := 2) (pc := 135) dX12_seal_135 (by decide) ?_
              refine s_istore (lv' := [(6, .int 2), (4, .long x9), (3, .int x5), (0, .ref mo), (1, .int a0), (2, .int a1)]) (pc := 136) dX12_seal_136 (by decide) rfl ?_
              refine s_iconst (v := 0) (pc := 138) dX12_seal_138 (by decide) ?_
              refine s_istore (lv' := [(7, .int 0), (6, .int 2), (4, .long x9), (3, .int x5), (0, .ref mo), (1, .int a0), (2, .int a1)]) (pc := 139) dX12_seal_139 (by decide) rfl ?_
              refine s_bind (Ψ := X12_seal_x141 l n0 S0 mo h a0 a1) ?_ ?_
              · refine s_sub [4, 5, 6, 2, 1, 0] rfl ?_
                exact s_loop (lvf := fun (q : Int64 × Int32 × Int32 × RS) => [(0, .ref mo), (1, .int a0), (2, .int a1), (4, .long q.1), (6, .int q.2.1), (7, .int q.2.2.1)]) (stf := fun _ => []) (hf := fun (q : Int64 × Int32 × Int32 × RS) => rH mo h q.2.2.2) (fun q => X12_seal_b141_ok hh a0 a1 q.1 q.2.1 q.2.2.1 q.2.2.2) FU (x9, (2 : Int32), (0 : Int32), s8)
              · intro t17 z r h' hz hr
                refine (?_ : aS l 2 MX12_seal n0 S0 (oΦ (fun (x : Int32 × RS) => (some (.int x.1), rH mo h x.2))) 222 [(0, .ref mo), (1, .int a0), (4, .long t17.1), (6, .int t17.2.1)] [] (rH mo h t17.2.2) _) z hz r h' hr
                refine s_aload_n (pc := 222) 0 dX12_seal_222 rfl ?_
                refine rg_20 hh (pc := 223) dX12_seal_223 rfl ?_
                refine s_bipush (v := 60) (pc := 226) dX12_seal_226 (by decide) ?_
                refine s_iload_n (pc := 228) 1 dX12_seal_228 rfl ?_
                refine s_imul (pc := 229) dX12_seal_229 ?_
                refine s_iload (pc := 230) 3 dX12_seal_230 rfl ?_
                refine s_iadd (pc := 232) dX12_seal_232 ?_
                refine s_lload (pc := 233) 2 dX12_seal_233 rfl ?_
                refine s_ldc2 (v := 251) (pc := 235) dX12_seal_235 wk_X12_500 ?_
                refine s_lremC (pc := 238) dX12_seal_238 (by decide) ?_
                refine rs_2 hh (pc := 239) dX12_seal_239 (fun s18 => ?_)
                refine s_iload (pc := 240) 3 dX12_seal_240 rfl ?_
                refine s_iconst (v := 1) (pc := 242) dX12_seal_242 (by decide) ?_
                refine s_iadd (pc := 243) dX12_seal_243 ?_
                exact s_iret (pc := 244) dX12_seal_244 rfl (fun _ _ q => q)
            · refine s_aload_n (pc := 99) 1 dX12_seal_99 rfl ?_
              refine s_bipush (v := 9) (pc := 100) dX12_seal_100 (by decide) ?_
              refine s_callV (M := MX12_seal) (As := [.int 9]) (st := []) (Ψ := fun (x : Int32 × RS) => (some (.int x.1), rH mo h x.2)) cv_X12_299 (by decide) (pc := 102) dX12_seal_102 r_0 (r_lt (k := 0) hh (by decide)) rfl (Nat.le_of_ble_eq_true rfl) (fun x hx => pX12_refuse_ok hh s2 (9 : Int32) x hx) rfl (fun x19 _ => ?_)
              exact s_iret (pc := 105) dX12_seal_105 rfl (fun _ _ q => q)
        · refine s_aload_n (pc := 70) 1 dX12_seal_70 rfl ?_
          refine s_iconst (v := 4) (pc := 71) dX12_seal_71 (by decide) ?_
          refine s_callV (M := MX12_seal) (As := [.int 4]) (st := []) (Ψ := fun (x : Int32 × RS) => (some (.int x.1), rH mo h x.2)) cv_X12_299 (by decide) (pc := 72) dX12_seal_72 r_0 (r_lt (k := 0) hh (by decide)) rfl (Nat.le_of_ble_eq_true rfl) (fun x hx => pX12_refuse_ok hh s2 (4 : Int32) x hx) rfl (fun x21 _ => ?_)
          exact s_iret (pc := 75) dX12_seal_75 rfl (fun _ _ q => q)
      · refine s_aload_n (pc := 47) 0 dX12_seal_47 rfl ?_
        refine s_iconst (v := 3) (pc := 48) dX12_seal_48 (by decide) ?_
        refine s_callV (M := MX12_seal) (As := [.int 3]) (st := []) (Ψ := fun (x : Int32 × RS) => (some (.int x.1), rH mo h x.2)) cv_X12_299 (by decide) (pc := 49) dX12_seal_49 r_0 (r_lt (k := 0) hh (by decide)) rfl (Nat.le_of_ble_eq_true rfl) (fun x hx => pX12_refuse_ok hh s2 (3 : Int32) x hx) rfl (fun x22 _ => ?_)
        exact s_iret (pc := 52) dX12_seal_52 rfl (fun _ _ q => q)
    · refine s_aload_n (pc := 32) 0 dX12_seal_32 rfl ?_
      refine s_iconst (v := 2) (pc := 33) dX12_seal_33 (by decide) ?_
      refine s_callV (M := MX12_seal) (As := [.int 2]) (st := []) (Ψ := fun (x : Int32 × RS) => (some (.int x.1), rH mo h x.2)) cv_X12_299 (by decide) (pc := 34) dX12_seal_34 r_0 (r_lt (k := 0) hh (by decide)) rfl (Nat.le_of_ble_eq_true rfl) (fun x hx => pX12_refuse_ok hh s2 (2 : Int32) x hx) rfl (fun x23 _ => ?_)
      exact s_iret (pc := 37) dX12_seal_37 rfl (fun _ _ q => q)
  · refine s_aload_n (pc := 18) 0 dX12_seal_18 rfl ?_
    refine s_iconst (v := 1) (pc := 19) dX12_seal_19 (by decide) ?_
    refine s_callV (M := MX12_seal) (As := [.int 1]) (st := []) (Ψ := fun (x : Int32 × RS) => (some (.int x.1), rH mo h x.2)) cv_X12_299 (by decide) (pc := 20) dX12_seal_20 r_0 (r_lt (k := 0) hh (by decide)) rfl (Nat.le_of_ble_eq_true rfl) (fun x hx => pX12_refuse_ok hh s2 (1 : Int32) x hx) rfl (fun x24 _ => ?_)
    exact s_iret (pc := 23) dX12_seal_23 rfl (fun _ _ q => q)
theorem pX12_seal_ok (hh : mo + 18 ≤ h.2.1) (s : RS) (a0 : Int32) (a1 : Int32) : ∀ x, pX12_seal s a0 a1 = some x → aMet l 2 yX12_seal cX12_seal 8 (some .int) [.ref mo, .int a0, .int a1] (rH mo h s) (some (.int x.1)) (rH mo h x.2) := fun x hx => a_meth (ini := false) (y := yX12_seal) (by decide +kernel) (fun q => by cases q) (fun _ => Nat.le_of_ble_eq_true rfl) (pX12_seal_w hh s a0 a1) x hx _ _ ⟨rfl, rfl⟩
end
section
variable {l : Launch} {n0 S0 : Nat} {mo : Nat} {h : aH}
abbrev MX12_open : aM := (cX12_open, RX12, 13, (some .int), false)
def X12_open_j84 (s : RS) : Option (Int32 × RS) :=
  (pX12_refuse s (9 : Int32)).bind fun x6 =>
  some (x6.1, x6.2)
theorem X12_open_j84_ok (hh : mo + 18 ≤ h.2.1) (s : RS) : aS l 2 MX12_open n0 S0 (oΦ (fun (x : Int32 × RS) => (some (.int x.1), rH mo h x.2))) 84 [(0, .ref mo)] [] (rH mo h s) (X12_open_j84 s) := by
  unfold X12_open_j84
  refine s_aload_n (pc := 84) 0 dX12_open_84 rfl ?_
  refine s_bipush (v := 9) (pc := 85) dX12_open_85 (by decide) ?_
  refine s_callV (M := MX12_open) (As := [.int 9]) (st := []) (Ψ := fun (x : Int32 × RS) => (some (.int x.1), rH mo h x.2)) cv_X12_299 (by decide) (pc := 87) dX12_open_87 r_0 (r_lt (k := 0) hh (by decide)) rfl (Nat.le_of_ble_eq_true rfl) (fun x hx => pX12_refuse_ok hh s (9 : Int32) x hx) rfl (fun x6 _ => ?_)
  exact s_iret (pc := 90) dX12_open_90 rfl (fun _ _ q => q)
def X12_open_x130 (l : Launch) (n0 S0 : Nat) (mo : Nat) (h : aH) (v1 : Int32) (v4 : Int32) (s : RS) : (Unit ⊕ (Unit ⊕ (Int32 × Int64))) → Option Value → aH → Prop := Sum.elim (fun (x : Unit) (r : Option Value) (h' : aH) => aEv l 2 MX12_open n0 S0 160 [(0, .ref mo)] [] (rH mo h s) r h') (Sum.elim (fun (x : Unit) (r : Option Value) (h' : aH) => aEv l 2 MX12_open n0 S0 208 [(0, .ref mo)] [] (rH mo h s) r h') (fun (x : Int32 × Int64) (r : Option Value) (h' : aH) => aEv l 2 MX12_open n0 S0 241 [(0, .ref mo), (1, .int v1), (4, .int v4), (5, .int x.1), (7, .long x.2)] [] (rH mo h s) r h'))
def X12_open_b130 (v1 : Int32) (v4 : Int32) (v5 : Int32) (v6 : Int32) (v7 : Int64) (v9 : Int32) (s : RS) : Option ((Int32 × Int32 × Int64 × Int32) ⊕ (Unit ⊕ (Unit ⊕ (Int32 × Int64)))) :=
  if v4 ≤ v9 then
    some (.inr (.inr (.inr (v5, v7))))
  else
    (pX12_numberOf s v1 ((2 : Int32) + v9)).bind fun x9 =>
    (pX12_isIn x9 (0 : Int64) (79 : Int64)).bind fun x10 =>
    if x10 = true then
      thn (x9.toInt32 / (5 : Int32)) fun x11 =>
      if x11 ≤ v6 then
        some (.inr (.inr (.inl ())))
      else
        (pX12_isChange s x11).bind fun x12 =>
        if x12 = true then
          (pX12_kind s (0 : Int32) x11).bind fun x13 =>
          if x13.toInt64 = (x9 - x9 / (5 : Int64) * (5 : Int64)) then
            thn (v5 ||| ((1 : Int32) <<< (x11 &&& 31))) fun x14 =>
            thn (v7 + x9) fun x15 =>
            thn (v9 + 1) fun x16 =>
            some (.inl (x14, x11, x15, x16))
          else
            some (.inr (.inr (.inl ())))
        else
          some (.inr (.inr (.inl ())))
    else
      some (.inr (.inl ()))
theorem X12_open_b130_ok (hh : mo + 18 ≤ h.2.1) (v1 : Int32) (v4 : Int32) (v5 : Int32) (v6 : Int32) (v7 : Int64) (v9 : Int32) (s : RS) : aS l 2 MX12_open n0 S0 (a_LΦ (X12_open_x130 l n0 S0 mo h v1 v4 s) l 2 MX12_open n0 S0 130 (fun (q : Int32 × Int32 × Int64 × Int32) => [(0, .ref mo), (1, .int v1), (4, .int v4), (5, .int q.1), (6, .int q.2.1), (7, .long q.2.2.1), (9, .int q.2.2.2)]) (fun _ => []) (fun (q : Int32 × Int32 × Int64 × Int32) => rH mo h s)) 130 [(0, .ref mo), (1, .int v1), (4, .int v4), (5, .int v5), (6, .int v6), (7, .long v7), (9, .int v9)] [] (rH mo h s) (X12_open_b130 v1 v4 v5 v6 v7 v9 s) := by
  unfold X12_open_b130
  refine s_iload (pc := 130) 6 dX12_open_130 rfl ?_
  refine s_iload (pc := 132) 2 dX12_open_132 rfl ?_
  refine s_icmp_ge (tgt := 241) (pc := 134) dX12_open_134 (by decide) (fun _ => ?_) (fun _ => ?_)
  · refine s_sub [0, 1, 2, 3, 5] rfl ?_
    exact s_ev (fun _ _ q => q)
  · refine s_aload_n (pc := 137) 0 dX12_open_137 rfl ?_
    refine s_iload_n (pc := 138) 1 dX12_open_138 rfl ?_
    refine s_iconst (v := 2) (pc := 139) dX12_open_139 (by decide) ?_
    refine s_iload (pc := 140) 6 dX12_open_140 rfl ?_
    refine s_iadd (pc := 142) dX12_open_142 ?_
    refine s_callV (M := MX12_open) (As := [.int v1, .int ((2 : Int32) + v9)]) (st := []) (Ψ := fun (x : Int64) => (some (.long x), rH mo h s)) cv_X12_393 (by decide) (pc := 143) dX12_open_143 r_0 (r_lt (k := 0) hh (by decide)) rfl (Nat.le_of_ble_eq_true rfl) (fun x hx => pX12_numberOf_ok hh s v1 ((2 : Int32) + v9) x hx) rfl (fun x9 _ => ?_)
    refine s_lstore (lv' := [(10, .long x9), (0, .ref mo), (1, .int v1), (4, .int v4), (5, .int v5), (6, .int v6), (7, .long v7), (9, .int v9)]) (pc := 146) dX12_open_146 (by decide) rfl ?_
    refine s_lload (pc := 148) 0 dX12_open_148 rfl ?_
    refine s_lconst (v := 0) (pc := 150) dX12_open_150 (by decide) ?_
    refine s_ldc2 (v := 79) (pc := 151) dX12_open_151 wk_X12_502 ?_
    refine s_callS (M := MX12_open) (As := [.long x9, .long (0 : Int64), .long (79 : Int64)]) (st := []) (Ψ := fun (x : Bool) => (some (.int (b2i x)), rH mo h s)) cs_X12_110 (by decide) (pc := 154) dX12_open_154 rfl (Nat.le_of_ble_eq_true rfl) (fun x hx => pX12_isIn_ok x9 (0 : Int64) (79 : Int64) x hx) rfl (fun x10 _ => ?_)
    refine s_if_neB (tgt := 167) (pc := 157) dX12_open_157 (by decide) (fun _ => ?_) (fun _ => ?_)
    · refine s_lload (pc := 167) 0 dX12_open_167 rfl ?_
      refine s_l2i (pc := 169) dX12_open_169 ?_
      refine s_iconst (v := 5) (pc := 170) dX12_open_170 (by decide) ?_
      refine s_idivC (pc := 171) dX12_open_171 (by decide) ?_
      refine s_istoreT (lv' := fun x11 => [(12, .int x11), (10, .long x9), (0, .ref mo), (1, .int v1), (4, .int v4), (5, .int v5), (6, .int v6), (7, .long v7), (9, .int v9)]) (pc := 172) dX12_open_172 (by decide) (fun _ => rfl) (fun x11 => ?_)
      refine s_iload (pc := 174) 0 dX12_open_174 rfl ?_
      refine s_iload (pc := 176) 6 dX12_open_176 rfl ?_
      refine s_icmp_le (tgt := 208) (pc := 178) dX12_open_178 (by decide) (fun _ => ?_) (fun _ => ?_)
      · refine s_sub [2] rfl ?_
        exact s_ev (fun _ _ q => q)
      · refine s_aload_n (pc := 181) 2 dX12_open_181 rfl ?_
        refine s_iload (pc := 182) 0 dX12_open_182 rfl ?_
        refine s_callV (M := MX12_open) (As := [.int x11]) (st := []) (Ψ := fun (x : Bool) => (some (.int (b2i x)), rH mo h s)) cv_X12_311 (by decide) (pc := 184) dX12_open_184 r_0 (r_lt (k := 0) hh (by decide)) rfl (Nat.le_of_ble_eq_true rfl) (fun x hx => pX12_isChange_ok hh s x11 x hx) rfl (fun x12 _ => ?_)
        refine s_if_eqB (tgt := 208) (pc := 187) dX12_open_187 (by decide) (fun _ => ?_) (fun _ => ?_)
        · refine s_aload_n (pc := 190) 2 dX12_open_190 rfl ?_
          refine s_iconst (v := 0) (pc := 191) dX12_open_191 (by decide) ?_
          refine s_iload (pc := 192) 0 dX12_open_192 rfl ?_
          refine s_callV (M := MX12_open) (As := [.int 0, .int x11]) (st := []) (Ψ := fun (x : Int32) => (some (.int x), rH mo h s)) cv_X12_239 (by decide) (pc := 194) dX12_open_194 r_0 (r_lt (k := 0) hh (by decide)) rfl (Nat.le_of_ble_eq_true rfl) (fun x hx => pX12_kind_ok hh s (0 : Int32) x11 x hx) rfl (fun x13 _ => ?_)
          refine s_i2l (pc := 197) dX12_open_197 ?_
          refine s_lload (pc := 198) 1 dX12_open_198 rfl ?_
          refine s_ldc2 (v := 5) (pc := 200) dX12_open_200 wk_X12_498 ?_
          refine s_lremC (pc := 203) dX12_open_203 (by decide) ?_
          refine s_lcmp (pc := 204) dX12_open_204 ?_
          refine s_ifL (lg_cmp_z _ _) (s_if_eq (tgt := 215) (pc := 205) dX12_open_205 (by decide) (fun _ => ?_) (fun _ => ?_))
          · refine s_iload (pc := 215) 0 dX12_open_215 rfl ?_
            refine s_istore (lv' := [(6, .int x11), (12, .int x11), (10, .long x9), (0, .ref mo), (1, .int v1), (4, .int v4), (5, .int v5), (7, .long v7), (9, .int v9)]) (pc := 217) dX12_open_217 (by decide) rfl ?_
            refine s_iload (pc := 219) 6 dX12_open_219 rfl ?_
            refine s_iconst (v := 1) (pc := 221) dX12_open_221 (by decide) ?_
            refine s_iload (pc := 222) 1 dX12_open_222 rfl ?_
            refine s_ishl (pc := 224) dX12_open_224 ?_
            refine s_ior (pc := 225) dX12_open_225 ?_
            refine s_istoreT (lv' := fun x14 => [(5, .int x14), (6, .int x11), (12, .int x11), (10, .long x9), (0, .ref mo), (1, .int v1), (4, .int v4), (7, .long v7), (9, .int v9)]) (pc := 226) dX12_open_226 (by decide) (fun _ => rfl) (fun x14 => ?_)
            refine s_lload (pc := 228) 7 dX12_open_228 rfl ?_
            refine s_lload (pc := 230) 3 dX12_open_230 rfl ?_
            refine s_ladd (pc := 232) dX12_open_232 ?_
            refine s_lstoreT (lv' := fun x15 => [(7, .long x15), (5, .int x14), (6, .int x11), (12, .int x11), (10, .long x9), (0, .ref mo), (1, .int v1), (4, .int v4), (9, .int v9)]) (pc := 233) dX12_open_233 (by decide) (fun _ => rfl) (fun x15 => ?_)
            refine s_iincT (pc := 235) 8 (lv' := fun x16 => [(9, .int x16), (7, .long x15), (5, .int x14), (6, .int x11), (12, .int x11), (10, .long x9), (0, .ref mo), (1, .int v1), (4, .int v4)]) dX12_open_235 rfl rfl (by decide) (fun _ => rfl) (fun x16 => ?_)
            refine s_goto (tgt := 130) (pc := 238) dX12_open_238 (by decide) ?_
            refine s_sub [6, 7, 8, 2, 3, 1, 0] rfl ?_
            exact s_ev (fun _ _ q => q)
          · refine s_sub [2] rfl ?_
            exact s_ev (fun _ _ q => q)
        · refine s_sub [2] rfl ?_
          exact s_ev (fun _ _ q => q)
    · refine s_sub [1] rfl ?_
      exact s_ev (fun _ _ q => q)
def X12_open_j208 (s : RS) : Option (Int32 × RS) :=
  (pX12_refuse s (9 : Int32)).bind fun x20 =>
  some (x20.1, x20.2)
theorem X12_open_j208_ok (hh : mo + 18 ≤ h.2.1) (s : RS) : aS l 2 MX12_open n0 S0 (oΦ (fun (x : Int32 × RS) => (some (.int x.1), rH mo h x.2))) 208 [(0, .ref mo)] [] (rH mo h s) (X12_open_j208 s) := by
  unfold X12_open_j208
  refine s_aload_n (pc := 208) 0 dX12_open_208 rfl ?_
  refine s_bipush (v := 9) (pc := 209) dX12_open_209 (by decide) ?_
  refine s_callV (M := MX12_open) (As := [.int 9]) (st := []) (Ψ := fun (x : Int32 × RS) => (some (.int x.1), rH mo h x.2)) cv_X12_299 (by decide) (pc := 211) dX12_open_211 r_0 (r_lt (k := 0) hh (by decide)) rfl (Nat.le_of_ble_eq_true rfl) (fun x hx => pX12_refuse_ok hh s (9 : Int32) x hx) rfl (fun x20 _ => ?_)
  exact s_iret (pc := 214) dX12_open_214 rfl (fun _ _ q => q)
def X12_open_j269 (s : RS) : Option (Int32 × RS) :=
  (pX12_refuse s (9 : Int32)).bind fun x23 =>
  some (x23.1, x23.2)
theorem X12_open_j269_ok (hh : mo + 18 ≤ h.2.1) (s : RS) : aS l 2 MX12_open n0 S0 (oΦ (fun (x : Int32 × RS) => (some (.int x.1), rH mo h x.2))) 269 [(0, .ref mo)] [] (rH mo h s) (X12_open_j269 s) := by
  unfold X12_open_j269
  refine s_aload_n (pc := 269) 0 dX12_open_269 rfl ?_
  refine s_bipush (v := 9) (pc := 270) dX12_open_270 (by decide) ?_
  refine s_callV (M := MX12_open) (As := [.int 9]) (st := []) (Ψ := fun (x : Int32 × RS) => (some (.int x.1), rH mo h x.2)) cv_X12_299 (by decide) (pc := 272) dX12_open_272 r_0 (r_lt (k := 0) hh (by decide)) rfl (Nat.le_of_ble_eq_true rfl) (fun x hx => pX12_refuse_ok hh s (9 : Int32) x hx) rfl (fun x23 _ => ?_)
  exact s_iret (pc := 275) dX12_open_275 rfl (fun _ _ q => q)
def pX12_open (s : RS) (a0 : Int32) : Option (Int32 × RS) :=
  thn (uI s 1 (0 : Int32)) fun s1 =>
  thn (uI s1 0 (0 : Int32)) fun s2 =>
  (pX12_isTray s2 a0).bind fun x3 =>
  if x3 = true then
    g_in a0 4 (
    if 0 ≤ (s2.2.2.1 1 a0.toNatClampNeg) then
      g_in a0 4 (
      if (3 : Int32) ≤ (s2.2.2.1 1 a0.toNatClampNeg) then
        (pX12_numberOf s2 a0 (1 : Int32)).bind fun x4 =>
        (pX12_numberOf s2 a0 (0 : Int32)).bind fun x5 =>
        if x5 = (1 : Int64) then
          (pX12_isIn x4 (0 : Int64) (16 : Int64)).bind fun x7 =>
          if x7 = true then
            g_in a0 4 (
            if (x4.toInt32 + (3 : Int32)) ≤ (s2.2.2.1 1 a0.toNatClampNeg) then
              thn ((1 : Int64) + x4.toInt32.toInt64) fun x8 =>
              (a_loop (fun (q : Int32 × Int32 × Int64 × Int32) => X12_open_b130 a0 x4.toInt32 q.1 q.2.1 q.2.2.1 q.2.2.2 s2) FU ((0 : Int32), (-1 : Int32), x8, (0 : Int32))).bind (Sum.elim (fun (t17 : Unit) =>
                  (pX12_refuse s2 (9 : Int32)).bind fun x18 =>
                  some (x18.1, x18.2))
                (Sum.elim (fun (t19 : Unit) =>
                  X12_open_j208 s2)
                (fun (t21 : Int32 × Int64) =>
                  (pX12_numberOf s2 a0 ((2 : Int32) + x4.toInt32)).bind fun x22 =>
                  if x22 = (t21.2 - t21.2 / (251 : Int64) * (251 : Int64)) then
                    (pX12_lackOf s2 t21.1).bind fun x24 =>
                    if x24 = 0 then
                      some (t21.1, s2)
                    else
                      X12_open_j269 s2
                  else
                    X12_open_j269 s2)))
            else
              (pX12_refuse s2 (4 : Int32)).bind fun x25 =>
              some (x25.1, x25.2))
          else
            X12_open_j84 s2
        else
          X12_open_j84 s2
      else
        (pX12_refuse s2 (4 : Int32)).bind fun x26 =>
        some (x26.1, x26.2))
    else
      (pX12_refuse s2 (3 : Int32)).bind fun x27 =>
      some (x27.1, x27.2))
  else
    (pX12_refuse s2 (1 : Int32)).bind fun x28 =>
    some (x28.1, x28.2)
theorem pX12_open_w (hh : mo + 18 ≤ h.2.1) (s : RS) (a0 : Int32) : aS l 2 MX12_open n0 S0 (oΦ (fun (x : Int32 × RS) => (some (.int x.1), rH mo h x.2))) 0 [(0, .ref mo), (1, .int a0)] [] (rH mo h s) (pX12_open s a0) := by
  unfold pX12_open
  refine s_aload_n (pc := 0) 0 dX12_open_0 rfl ?_
  refine s_iconst (v := 0) (pc := 1) dX12_open_1 (by decide) ?_
  refine rp_75 hh (pc := 2) dX12_open_2 rfl (fun s1 => ?_)
  refine s_aload_n (pc := 5) 0 dX12_open_5 rfl ?_
  refine s_iconst (v := 0) (pc := 6) dX12_open_6 (by decide) ?_
  refine rp_78 hh (pc := 7) dX12_open_7 rfl (fun s2 => ?_)
  refine s_aload_n (pc := 10) 0 dX12_open_10 rfl ?_
  refine s_iload_n (pc := 11) 1 dX12_open_11 rfl ?_
  refine s_callV (M := MX12_open) (As := [.int a0]) (st := []) (Ψ := fun (x : Bool) => (some (.int (b2i x)), rH mo h s2)) cv_X12_388 (by decide) (pc := 12) dX12_open_12 r_0 (r_lt (k := 0) hh (by decide)) rfl (Nat.le_of_ble_eq_true rfl) (fun x hx => pX12_isTray_ok hh s2 a0 x hx) rfl (fun x3 _ => ?_)
  refine s_if_neB (tgt := 24) (pc := 15) dX12_open_15 (by decide) (fun _ => ?_) (fun _ => ?_)
  · refine s_aload_n (pc := 24) 0 dX12_open_24 rfl ?_
    refine rg_17 hh (pc := 25) dX12_open_25 rfl ?_
    refine s_iload_n (pc := 28) 1 dX12_open_28 rfl ?_
    refine rl_1 hh (pc := 29) dX12_open_29 ?_
    refine s_if_ge (tgt := 39) (pc := 30) dX12_open_30 (by decide) (fun _ => ?_) (fun _ => ?_)
    · refine s_aload_n (pc := 39) 0 dX12_open_39 rfl ?_
      refine rg_17 hh (pc := 40) dX12_open_40 rfl ?_
      refine s_iload_n (pc := 43) 1 dX12_open_43 rfl ?_
      refine rl_1 hh (pc := 44) dX12_open_44 ?_
      refine s_iconst (v := 3) (pc := 45) dX12_open_45 (by decide) ?_
      refine s_icmp_ge (tgt := 55) (pc := 46) dX12_open_46 (by decide) (fun _ => ?_) (fun _ => ?_)
      · refine s_aload_n (pc := 55) 0 dX12_open_55 rfl ?_
        refine s_iload_n (pc := 56) 1 dX12_open_56 rfl ?_
        refine s_iconst (v := 1) (pc := 57) dX12_open_57 (by decide) ?_
        refine s_callV (M := MX12_open) (As := [.int a0, .int 1]) (st := []) (Ψ := fun (x : Int64) => (some (.long x), rH mo h s2)) cv_X12_393 (by decide) (pc := 58) dX12_open_58 r_0 (r_lt (k := 0) hh (by decide)) rfl (Nat.le_of_ble_eq_true rfl) (fun x hx => pX12_numberOf_ok hh s2 a0 (1 : Int32) x hx) rfl (fun x4 _ => ?_)
        refine s_lstore_n (lv' := [(2, .long x4), (0, .ref mo), (1, .int a0)]) (pc := 61) dX12_open_61 (by decide) rfl ?_
        refine s_aload_n (pc := 62) 1 dX12_open_62 rfl ?_
        refine s_iload_n (pc := 63) 2 dX12_open_63 rfl ?_
        refine s_iconst (v := 0) (pc := 64) dX12_open_64 (by decide) ?_
        refine s_callV (M := MX12_open) (As := [.int a0, .int 0]) (st := []) (Ψ := fun (x : Int64) => (some (.long x), rH mo h s2)) cv_X12_393 (by decide) (pc := 65) dX12_open_65 r_0 (r_lt (k := 0) hh (by decide)) rfl (Nat.le_of_ble_eq_true rfl) (fun x hx => pX12_numberOf_ok hh s2 a0 (0 : Int32) x hx) rfl (fun x5 _ => ?_)
        refine s_lconst (v := 1) (pc := 68) dX12_open_68 (by decide) ?_
        refine s_lcmp (pc := 69) dX12_open_69 ?_
        refine s_ifL (lg_cmp_z _ _) (s_if_ne (tgt := 84) (pc := 70) dX12_open_70 (by decide) (fun _ => ?_) (fun _ => ?_))
        · refine s_lload_n (pc := 73) 0 dX12_open_73 rfl ?_
          refine s_lconst (v := 0) (pc := 74) dX12_open_74 (by decide) ?_
          refine s_ldc2 (v := 16) (pc := 75) dX12_open_75 wk_X12_391 ?_
          refine s_callS (M := MX12_open) (As := [.long x4, .long (0 : Int64), .long (16 : Int64)]) (st := []) (Ψ := fun (x : Bool) => (some (.int (b2i x)), rH mo h s2)) cs_X12_110 (by decide) (pc := 78) dX12_open_78 rfl (Nat.le_of_ble_eq_true rfl) (fun x hx => pX12_isIn_ok x4 (0 : Int64) (16 : Int64) x hx) rfl (fun x7 _ => ?_)
          refine s_if_neB (tgt := 91) (pc := 81) dX12_open_81 (by decide) (fun _ => ?_) (fun _ => ?_)
          · refine s_lload_n (pc := 91) 0 dX12_open_91 rfl ?_
            refine s_l2i (pc := 92) dX12_open_92 ?_
            refine s_istore (lv' := [(4, .int x4.toInt32), (2, .long x4), (0, .ref mo), (1, .int a0)]) (pc := 93) dX12_open_93 (by decide) rfl ?_
            refine s_aload_n (pc := 95) 2 dX12_open_95 rfl ?_
            refine rg_17 hh (pc := 96) dX12_open_96 rfl ?_
            refine s_iload_n (pc := 99) 3 dX12_open_99 rfl ?_
            refine rl_1 hh (pc := 100) dX12_open_100 ?_
            refine s_iload (pc := 101) 0 dX12_open_101 rfl ?_
            refine s_iconst (v := 3) (pc := 103) dX12_open_103 (by decide) ?_
            refine s_iadd (pc := 104) dX12_open_104 ?_
            refine s_icmp_ge (tgt := 114) (pc := 105) dX12_open_105 (by decide) (fun _ => ?_) (fun _ => ?_)
            · refine s_iconst (v := 0) (pc := 114) dX12_open_114 (by decide) ?_
              refine s_istore (lv' := [(5, .int 0), (4, .int x4.toInt32), (2, .long x4), (0, .ref mo), (1, .int a0)]) (pc := 115) dX12_open_115 (by decide) rfl ?_
              refine s_iconst (v := (-1)) (pc := 117) dX12_open_117 (by decide) ?_
              refine s_istore (lv' := [(6, .int (-1)), (5, .int 0), (4, .int x4.toInt32), (2, .long x4), (0, .ref mo), (1, .int a0)]) (pc := 118) dX12_open_118 (by decide) rfl ?_
              refine s_lconst (v := 1) (pc := 120) dX12_open_120 (by decide) ?_
              refine s_iload (pc := 121) 2 dX12_open_121 rfl ?_
              refine s_i2l (pc := 123) dX12_open_123 ?_
              refine s_ladd (pc := 124) dX12_open_124 ?_
              refine s_lstoreT (lv' := fun x8 => [(7, .long x8), (6, .int (-1)), (5, .int 0), (4, .int x4.toInt32), (2, .long x4), (0, .ref mo), (1, .int a0)]) (pc := 125) dX12_open_125 (by decide) (fun _ => rfl) (fun x8 => ?_)
              refine s_iconst (v := 0) (pc := 127) dX12_open_127 (by decide) ?_
              refine s_istore (lv' := [(9, .int 0), (7, .long x8), (6, .int (-1)), (5, .int 0), (4, .int x4.toInt32), (2, .long x4), (0, .ref mo), (1, .int a0)]) (pc := 128) dX12_open_128 (by decide) rfl ?_
              refine s_bind (Ψ := X12_open_x130 l n0 S0 mo h a0 x4.toInt32 s2) ?_ ?_
              · refine s_sub [6, 7, 4, 3, 2, 1, 0] rfl ?_
                exact s_loop (lvf := fun (q : Int32 × Int32 × Int64 × Int32) => [(0, .ref mo), (1, .int a0), (4, .int x4.toInt32), (5, .int q.1), (6, .int q.2.1), (7, .long q.2.2.1), (9, .int q.2.2.2)]) (stf := fun _ => []) (hf := fun (q : Int32 × Int32 × Int64 × Int32) => rH mo h s2) (fun q => X12_open_b130_ok hh a0 x4.toInt32 q.1 q.2.1 q.2.2.1 q.2.2.2 s2) FU ((0 : Int32), (-1 : Int32), x8, (0 : Int32))
              · intro x z r h' hz hr
                rcases x with t17 | t19 | t21
                · refine (?_ : aS l 2 MX12_open n0 S0 (oΦ (fun (x : Int32 × RS) => (some (.int x.1), rH mo h x.2))) 160 [(0, .ref mo)] [] (rH mo h s2) _) z (show _ = some z from hz) r h' hr
                  refine s_aload_n (pc := 160) 0 dX12_open_160 rfl ?_
                  refine s_bipush (v := 9) (pc := 161) dX12_open_161 (by decide) ?_
                  refine s_callV (M := MX12_open) (As := [.int 9]) (st := []) (Ψ := fun (x : Int32 × RS) => (some (.int x.1), rH mo h x.2)) cv_X12_299 (by decide) (pc := 163) dX12_open_163 r_0 (r_lt (k := 0) hh (by decide)) rfl (Nat.le_of_ble_eq_true rfl) (fun x hx => pX12_refuse_ok hh s2 (9 : Int32) x hx) rfl (fun x18 _ => ?_)
                  exact s_iret (pc := 166) dX12_open_166 rfl (fun _ _ q => q)
                · refine (?_ : aS l 2 MX12_open n0 S0 (oΦ (fun (x : Int32 × RS) => (some (.int x.1), rH mo h x.2))) 208 [(0, .ref mo)] [] (rH mo h s2) _) z (show _ = some z from hz) r h' hr
                  exact X12_open_j208_ok hh s2
                · refine (?_ : aS l 2 MX12_open n0 S0 (oΦ (fun (x : Int32 × RS) => (some (.int x.1), rH mo h x.2))) 241 [(0, .ref mo), (1, .int a0), (4, .int x4.toInt32), (5, .int t21.1), (7, .long t21.2)] [] (rH mo h s2) _) z (show _ = some z from hz) r h' hr
                  refine s_aload_n (pc := 241) 0 dX12_open_241 rfl ?_
                  refine s_iload_n (pc := 242) 1 dX12_open_242 rfl ?_
                  refine s_iconst (v := 2) (pc := 243) dX12_open_243 (by decide) ?_
                  refine s_iload (pc := 244) 2 dX12_open_244 rfl ?_
                  refine s_iadd (pc := 246) dX12_open_246 ?_
                  refine s_callV (M := MX12_open) (As := [.int a0, .int ((2 : Int32) + x4.toInt32)]) (st := []) (Ψ := fun (x : Int64) => (some (.long x), rH mo h s2)) cv_X12_393 (by decide) (pc := 247) dX12_open_247 r_0 (r_lt (k := 0) hh (by decide)) rfl (Nat.le_of_ble_eq_true rfl) (fun x hx => pX12_numberOf_ok hh s2 a0 ((2 : Int32) + x4.toInt32) x hx) rfl (fun x22 _ => ?_)
                  refine s_lload (pc := 250) 4 dX12_open_250 rfl ?_
                  refine s_ldc2 (v := 251) (pc := 252) dX12_open_252 wk_X12_500 ?_
                  refine s_lremC (pc := 255) dX12_open_255 (by decide) ?_
                  refine s_lcmp (pc := 256) dX12_open_256 ?_
                  refine s_ifL (lg_cmp_z _ _) (s_if_ne (tgt := 269) (pc := 257) dX12_open_257 (by decide) (fun _ => ?_) (fun _ => ?_))
                  · refine s_aload_n (pc := 260) 0 dX12_open_260 rfl ?_
                    refine s_iload (pc := 261) 3 dX12_open_261 rfl ?_
                    refine s_callV (M := MX12_open) (As := [.int t21.1]) (st := []) (Ψ := fun (x : Int32) => (some (.int x), rH mo h s2)) cv_X12_322 (by decide) (pc := 263) dX12_open_263 r_0 (r_lt (k := 0) hh (by decide)) rfl (Nat.le_of_ble_eq_true rfl) (fun x hx => pX12_lackOf_ok hh s2 t21.1 x hx) rfl (fun x24 _ => ?_)
                    refine s_if_eq (tgt := 276) (pc := 266) dX12_open_266 (by decide) (fun _ => ?_) (fun _ => ?_)
                    · refine s_iload (pc := 276) 3 dX12_open_276 rfl ?_
                      exact s_iret (pc := 278) dX12_open_278 rfl (fun _ _ q => q)
                    · refine s_sub [0] rfl ?_
                      exact X12_open_j269_ok hh s2
                  · refine s_sub [0] rfl ?_
                    exact X12_open_j269_ok hh s2
            · refine s_aload_n (pc := 108) 2 dX12_open_108 rfl ?_
              refine s_iconst (v := 4) (pc := 109) dX12_open_109 (by decide) ?_
              refine s_callV (M := MX12_open) (As := [.int 4]) (st := []) (Ψ := fun (x : Int32 × RS) => (some (.int x.1), rH mo h x.2)) cv_X12_299 (by decide) (pc := 110) dX12_open_110 r_0 (r_lt (k := 0) hh (by decide)) rfl (Nat.le_of_ble_eq_true rfl) (fun x hx => pX12_refuse_ok hh s2 (4 : Int32) x hx) rfl (fun x25 _ => ?_)
              exact s_iret (pc := 113) dX12_open_113 rfl (fun _ _ q => q)
          · refine s_sub [1] rfl ?_
            exact X12_open_j84_ok hh s2
        · refine s_sub [1] rfl ?_
          exact X12_open_j84_ok hh s2
      · refine s_aload_n (pc := 49) 0 dX12_open_49 rfl ?_
        refine s_iconst (v := 4) (pc := 50) dX12_open_50 (by decide) ?_
        refine s_callV (M := MX12_open) (As := [.int 4]) (st := []) (Ψ := fun (x : Int32 × RS) => (some (.int x.1), rH mo h x.2)) cv_X12_299 (by decide) (pc := 51) dX12_open_51 r_0 (r_lt (k := 0) hh (by decide)) rfl (Nat.le_of_ble_eq_true rfl) (fun x hx => pX12_refuse_ok hh s2 (4 : Int32) x hx) rfl (fun x26 _ => ?_)
        exact s_iret (pc := 54) dX12_open_54 rfl (fun _ _ q => q)
    · refine s_aload_n (pc := 33) 0 dX12_open_33 rfl ?_
      refine s_iconst (v := 3) (pc := 34) dX12_open_34 (by decide) ?_
      refine s_callV (M := MX12_open) (As := [.int 3]) (st := []) (Ψ := fun (x : Int32 × RS) => (some (.int x.1), rH mo h x.2)) cv_X12_299 (by decide) (pc := 35) dX12_open_35 r_0 (r_lt (k := 0) hh (by decide)) rfl (Nat.le_of_ble_eq_true rfl) (fun x hx => pX12_refuse_ok hh s2 (3 : Int32) x hx) rfl (fun x27 _ => ?_)
      exact s_iret (pc := 38) dX12_open_38 rfl (fun _ _ q => q)
  · refine s_aload_n (pc := 18) 0 dX12_open_18 rfl ?_
    refine s_iconst (v := 1) (pc := 19) dX12_open_19 (by decide) ?_
    refine s_callV (M := MX12_open) (As := [.int 1]) (st := []) (Ψ := fun (x : Int32 × RS) => (some (.int x.1), rH mo h x.2)) cv_X12_299 (by decide) (pc := 20) dX12_open_20 r_0 (r_lt (k := 0) hh (by decide)) rfl (Nat.le_of_ble_eq_true rfl) (fun x hx => pX12_refuse_ok hh s2 (1 : Int32) x hx) rfl (fun x28 _ => ?_)
    exact s_iret (pc := 23) dX12_open_23 rfl (fun _ _ q => q)
theorem pX12_open_ok (hh : mo + 18 ≤ h.2.1) (s : RS) (a0 : Int32) : ∀ x, pX12_open s a0 = some x → aMet l 2 yX12_open cX12_open 13 (some .int) [.ref mo, .int a0] (rH mo h s) (some (.int x.1)) (rH mo h x.2) := fun x hx => a_meth (ini := false) (y := yX12_open) (by decide +kernel) (fun q => by cases q) (fun _ => Nat.le_of_ble_eq_true rfl) (pX12_open_w hh s a0) x hx _ _ ⟨rfl, rfl⟩
end
section
variable {l : Launch} {n0 S0 : Nat} {mo : Nat} {h : aH}
abbrev MX12_copy : aM := (cX12_copy, RX12, 4, none, false)
def X12_copy_x2 (l : Launch) (n0 S0 : Nat) (mo : Nat) (h : aH) (v1 : Int32) (v2 : Int32) : RS → Option Value → aH → Prop := fun (x : RS) r h' => aEv l 0 MX12_copy n0 S0 39 [(0, .ref mo), (1, .int v1), (2, .int v2)] [] (rH mo h x) r h'
def X12_copy_b2 (v1 : Int32) (v2 : Int32) (v3 : Int32) (s : RS) : Option ((Int32 × RS) ⊕ RS) :=
  if (360 : Int32) ≤ v3 then
    some (.inr s)
  else
    g_in (((360 : Int32) * v1) + v3) 1800 (
    g_in (((360 : Int32) * v2) + v3) 1800 (thn (uA s 4 (upd (s.2.2.1 4) (((360 : Int32) * v2) + v3).toNatClampNeg (s.2.2.1 4 (((360 : Int32) * v1) + v3).toNatClampNeg))) fun s1 =>
    thn (v3 + 1) fun x2 =>
    some (.inl (x2, s1))))
theorem X12_copy_b2_ok (hh : mo + 18 ≤ h.2.1) (v1 : Int32) (v2 : Int32) (v3 : Int32) (s : RS) : aS l 0 MX12_copy n0 S0 (a_LΦ (X12_copy_x2 l n0 S0 mo h v1 v2) l 0 MX12_copy n0 S0 2 (fun (q : Int32 × RS) => [(0, .ref mo), (1, .int v1), (2, .int v2), (3, .int q.1)]) (fun _ => []) (fun (q : Int32 × RS) => rH mo h q.2)) 2 [(0, .ref mo), (1, .int v1), (2, .int v2), (3, .int v3)] [] (rH mo h s) (X12_copy_b2 v1 v2 v3 s) := by
  unfold X12_copy_b2
  refine s_iload_n (pc := 2) 3 dX12_copy_2 rfl ?_
  refine s_sipush (v := 360) (pc := 3) dX12_copy_3 (by decide) ?_
  refine s_icmp_ge (tgt := 39) (pc := 6) dX12_copy_6 (by decide) (fun _ => ?_) (fun _ => ?_)
  · refine s_sub [0, 1, 2] rfl ?_
    exact s_ev (fun _ _ q => q)
  · refine s_aload_n (pc := 9) 0 dX12_copy_9 rfl ?_
    refine rg_35 hh (pc := 10) dX12_copy_10 rfl ?_
    refine s_sipush (v := 360) (pc := 13) dX12_copy_13 (by decide) ?_
    refine s_iload_n (pc := 16) 2 dX12_copy_16 rfl ?_
    refine s_imul (pc := 17) dX12_copy_17 ?_
    refine s_iload_n (pc := 18) 3 dX12_copy_18 rfl ?_
    refine s_iadd (pc := 19) dX12_copy_19 ?_
    refine s_aload_n (pc := 20) 0 dX12_copy_20 rfl ?_
    refine rg_35 hh (pc := 21) dX12_copy_21 rfl ?_
    refine s_sipush (v := 360) (pc := 24) dX12_copy_24 (by decide) ?_
    refine s_iload_n (pc := 27) 1 dX12_copy_27 rfl ?_
    refine s_imul (pc := 28) dX12_copy_28 ?_
    refine s_iload_n (pc := 29) 3 dX12_copy_29 rfl ?_
    refine s_iadd (pc := 30) dX12_copy_30 ?_
    refine rl_4 hh (pc := 31) dX12_copy_31 ?_
    refine rs_4 hh (pc := 32) dX12_copy_32 (fun s1 => ?_)
    refine s_iincT (pc := 33) 3 (lv' := fun x2 => [(3, .int x2), (0, .ref mo), (1, .int v1), (2, .int v2)]) dX12_copy_33 rfl rfl (by decide) (fun _ => rfl) (fun x2 => ?_)
    refine s_goto (tgt := 2) (pc := 36) dX12_copy_36 (by decide) ?_
    refine s_sub [1, 2, 3, 0] rfl ?_
    exact s_ev (fun _ _ q => q)
def X12_copy_x41 (l : Launch) (n0 S0 : Nat) (mo : Nat) (h : aH) (v1 : Int32) (v2 : Int32) : RS → Option Value → aH → Prop := fun (x : RS) r h' => aEv l 0 MX12_copy n0 S0 75 [] [] (rH mo h x) r h'
def X12_copy_b41 (v1 : Int32) (v2 : Int32) (v3 : Int32) (s : RS) : Option ((Int32 × RS) ⊕ RS) :=
  if (20 : Int32) ≤ v3 then
    some (.inr s)
  else
    g_in (((20 : Int32) * v1) + v3) 100 (
    g_in (((20 : Int32) * v2) + v3) 100 (thn (uB s 5 (vp_updL (s.2.2.2 5) (((20 : Int32) * v2) + v3).toNatClampNeg (s.2.2.2 5 (((20 : Int32) * v1) + v3).toNatClampNeg))) fun s4 =>
    thn (v3 + 1) fun x5 =>
    some (.inl (x5, s4))))
theorem X12_copy_b41_ok (hh : mo + 18 ≤ h.2.1) (v1 : Int32) (v2 : Int32) (v3 : Int32) (s : RS) : aS l 0 MX12_copy n0 S0 (a_LΦ (X12_copy_x41 l n0 S0 mo h v1 v2) l 0 MX12_copy n0 S0 41 (fun (q : Int32 × RS) => [(0, .ref mo), (1, .int v1), (2, .int v2), (3, .int q.1)]) (fun _ => []) (fun (q : Int32 × RS) => rH mo h q.2)) 41 [(0, .ref mo), (1, .int v1), (2, .int v2), (3, .int v3)] [] (rH mo h s) (X12_copy_b41 v1 v2 v3 s) := by
  unfold X12_copy_b41
  refine s_iload_n (pc := 41) 3 dX12_copy_41 rfl ?_
  refine s_bipush (v := 20) (pc := 42) dX12_copy_42 (by decide) ?_
  refine s_icmp_ge (tgt := 75) (pc := 44) dX12_copy_44 (by decide) (fun _ => ?_) (fun _ => ?_)
  · refine s_sub [] rfl ?_
    exact s_ev (fun _ _ q => q)
  · refine s_aload_n (pc := 47) 0 dX12_copy_47 rfl ?_
    refine rg_38 hh (pc := 48) dX12_copy_48 rfl ?_
    refine s_bipush (v := 20) (pc := 51) dX12_copy_51 (by decide) ?_
    refine s_iload_n (pc := 53) 2 dX12_copy_53 rfl ?_
    refine s_imul (pc := 54) dX12_copy_54 ?_
    refine s_iload_n (pc := 55) 3 dX12_copy_55 rfl ?_
    refine s_iadd (pc := 56) dX12_copy_56 ?_
    refine s_aload_n (pc := 57) 0 dX12_copy_57 rfl ?_
    refine rg_38 hh (pc := 58) dX12_copy_58 rfl ?_
    refine s_bipush (v := 20) (pc := 61) dX12_copy_61 (by decide) ?_
    refine s_iload_n (pc := 63) 1 dX12_copy_63 rfl ?_
    refine s_imul (pc := 64) dX12_copy_64 ?_
    refine s_iload_n (pc := 65) 3 dX12_copy_65 rfl ?_
    refine s_iadd (pc := 66) dX12_copy_66 ?_
    refine rl_5 hh (pc := 67) dX12_copy_67 ?_
    refine rs_5 hh (pc := 68) dX12_copy_68 (fun s4 => ?_)
    refine s_iincT (pc := 69) 3 (lv' := fun x5 => [(3, .int x5), (0, .ref mo), (1, .int v1), (2, .int v2)]) dX12_copy_69 rfl rfl (by decide) (fun _ => rfl) (fun x5 => ?_)
    refine s_goto (tgt := 41) (pc := 72) dX12_copy_72 (by decide) ?_
    refine s_sub [1, 2, 3, 0] rfl ?_
    exact s_ev (fun _ _ q => q)
def pX12_copy (s : RS) (a0 : Int32) (a1 : Int32) : Option RS :=
  (a_loop (fun (q : Int32 × RS) => X12_copy_b2 a0 a1 q.1 q.2) FU ((0 : Int32), s)).bind fun (t3 : RS) =>
    (a_loop (fun (q : Int32 × RS) => X12_copy_b41 a0 a1 q.1 q.2) FU ((0 : Int32), t3)).bind fun (t6 : RS) =>
      some t6
theorem pX12_copy_w (hh : mo + 18 ≤ h.2.1) (s : RS) (a0 : Int32) (a1 : Int32) : aS l 0 MX12_copy n0 S0 (oΦ (fun (x : RS) => (none, rH mo h x))) 0 [(0, .ref mo), (1, .int a0), (2, .int a1)] [] (rH mo h s) (pX12_copy s a0 a1) := by
  unfold pX12_copy
  refine s_iconst (v := 0) (pc := 0) dX12_copy_0 (by decide) ?_
  refine s_istore_n (lv' := [(3, .int 0), (0, .ref mo), (1, .int a0), (2, .int a1)]) (pc := 1) dX12_copy_1 (by decide) rfl ?_
  refine s_bind (Ψ := X12_copy_x2 l n0 S0 mo h a0 a1) ?_ ?_
  · refine s_sub [1, 2, 3, 0] rfl ?_
    exact s_loop (lvf := fun (q : Int32 × RS) => [(0, .ref mo), (1, .int a0), (2, .int a1), (3, .int q.1)]) (stf := fun _ => []) (hf := fun (q : Int32 × RS) => rH mo h q.2) (fun q => X12_copy_b2_ok hh a0 a1 q.1 q.2) FU ((0 : Int32), s)
  · intro t3 z r h' hz hr
    refine (?_ : aS l 0 MX12_copy n0 S0 (oΦ (fun (x : RS) => (none, rH mo h x))) 39 [(0, .ref mo), (1, .int a0), (2, .int a1)] [] (rH mo h t3) _) z hz r h' hr
    refine s_iconst (v := 0) (pc := 39) dX12_copy_39 (by decide) ?_
    refine s_istore_n (lv' := [(3, .int 0), (0, .ref mo), (1, .int a0), (2, .int a1)]) (pc := 40) dX12_copy_40 (by decide) rfl ?_
    refine s_bind (Ψ := X12_copy_x41 l n0 S0 mo h a0 a1) ?_ ?_
    · refine s_sub [1, 2, 3, 0] rfl ?_
      exact s_loop (lvf := fun (q : Int32 × RS) => [(0, .ref mo), (1, .int a0), (2, .int a1), (3, .int q.1)]) (stf := fun _ => []) (hf := fun (q : Int32 × RS) => rH mo h q.2) (fun q => X12_copy_b41_ok hh a0 a1 q.1 q.2) FU ((0 : Int32), t3)
    · intro t6 z r h' hz hr
      refine (?_ : aS l 0 MX12_copy n0 S0 (oΦ (fun (x : RS) => (none, rH mo h x))) 75 [] [] (rH mo h t6) _) z hz r h' hr
      exact s_vret (pc := 75) dX12_copy_75 rfl (fun _ _ q => q)
theorem pX12_copy_ok (hh : mo + 18 ≤ h.2.1) (s : RS) (a0 : Int32) (a1 : Int32) : ∀ x, pX12_copy s a0 a1 = some x → aMet l 0 yX12_copy cX12_copy 4 none [.ref mo, .int a0, .int a1] (rH mo h s) none (rH mo h x) := fun x hx => a_meth (ini := false) (y := yX12_copy) (by decide +kernel) (fun q => by cases q) (fun _ => Nat.le_of_ble_eq_true rfl) (pX12_copy_w hh s a0 a1) x hx _ _ ⟨rfl, rfl⟩
end
section
variable {l : Launch} {n0 S0 : Nat} {mo : Nat} {h : aH}
abbrev MX12_mark : aM := (cX12_mark, RX12, 1, (some .int), false)
def pX12_mark (s : RS) : Option (Int32 × RS) :=
  thn (uI s 1 (0 : Int32)) fun s1 =>
  thn (uI s1 0 (0 : Int32)) fun s2 =>
  if (s2.1 22) = (3 : Int32) then
    (pX12_refuse s2 (7 : Int32)).bind fun x5 =>
    some (x5.1, x5.2)
  else
    thn (uI s2 22 ((s2.1 22) + (1 : Int32))) fun s3 =>
    (pX12_copy s3 (0 : Int32) (s3.1 22)).bind fun x4 =>
    some ((x4.1 22), x4)
theorem pX12_mark_w (hh : mo + 18 ≤ h.2.1) (s : RS) : aS l 1 MX12_mark n0 S0 (oΦ (fun (x : Int32 × RS) => (some (.int x.1), rH mo h x.2))) 0 [(0, .ref mo)] [] (rH mo h s) (pX12_mark s) := by
  unfold pX12_mark
  refine s_aload_n (pc := 0) 0 dX12_mark_0 rfl ?_
  refine s_iconst (v := 0) (pc := 1) dX12_mark_1 (by decide) ?_
  refine rp_75 hh (pc := 2) dX12_mark_2 rfl (fun s1 => ?_)
  refine s_aload_n (pc := 5) 0 dX12_mark_5 rfl ?_
  refine s_iconst (v := 0) (pc := 6) dX12_mark_6 (by decide) ?_
  refine rp_78 hh (pc := 7) dX12_mark_7 rfl (fun s2 => ?_)
  refine s_aload_n (pc := 10) 0 dX12_mark_10 rfl ?_
  refine rg_504 hh (pc := 11) dX12_mark_11 rfl ?_
  refine s_iconst (v := 3) (pc := 14) dX12_mark_14 (by decide) ?_
  refine s_icmp_ne (tgt := 25) (pc := 15) dX12_mark_15 (by decide) (fun _ => ?_) (fun _ => ?_)
  · refine s_aload_n (pc := 18) 0 dX12_mark_18 rfl ?_
    refine s_bipush (v := 7) (pc := 19) dX12_mark_19 (by decide) ?_
    refine s_callV (M := MX12_mark) (As := [.int 7]) (st := []) (Ψ := fun (x : Int32 × RS) => (some (.int x.1), rH mo h x.2)) cv_X12_299 (by decide) (pc := 21) dX12_mark_21 r_0 (r_lt (k := 0) hh (by decide)) rfl (Nat.le_of_ble_eq_true rfl) (fun x hx => pX12_refuse_ok hh s2 (7 : Int32) x hx) rfl (fun x5 _ => ?_)
    exact s_iret (pc := 24) dX12_mark_24 rfl (fun _ _ q => q)
  · refine s_aload_n (pc := 25) 0 dX12_mark_25 rfl ?_
    refine s_dup (pc := 26) dX12_mark_26 rfl ?_
    refine rg_504 hh (pc := 27) dX12_mark_27 rfl ?_
    refine s_iconst (v := 1) (pc := 30) dX12_mark_30 (by decide) ?_
    refine s_iadd (pc := 31) dX12_mark_31 ?_
    refine rp_504 hh (pc := 32) dX12_mark_32 rfl (fun s3 => ?_)
    refine s_aload_n (pc := 35) 0 dX12_mark_35 rfl ?_
    refine s_iconst (v := 0) (pc := 36) dX12_mark_36 (by decide) ?_
    refine s_aload_n (pc := 37) 0 dX12_mark_37 rfl ?_
    refine rg_504 hh (pc := 38) dX12_mark_38 rfl ?_
    refine s_callV (M := MX12_mark) (As := [.int 0, .int (s3.1 22)]) (st := []) (Ψ := fun (x : RS) => (none, rH mo h x)) cv_X12_507 (by decide) (pc := 41) dX12_mark_41 r_0 (r_lt (k := 0) hh (by decide)) rfl (Nat.le_of_ble_eq_true rfl) (fun x hx => pX12_copy_ok hh s3 (0 : Int32) (s3.1 22) x hx) rfl (fun x4 _ => ?_)
    refine s_aload_n (pc := 44) 0 dX12_mark_44 rfl ?_
    refine rg_504 hh (pc := 45) dX12_mark_45 rfl ?_
    exact s_iret (pc := 48) dX12_mark_48 rfl (fun _ _ q => q)
theorem pX12_mark_ok (hh : mo + 18 ≤ h.2.1) (s : RS) : ∀ x, pX12_mark s = some x → aMet l 1 yX12_mark cX12_mark 1 (some .int) [.ref mo] (rH mo h s) (some (.int x.1)) (rH mo h x.2) := fun x hx => a_meth (ini := false) (y := yX12_mark) (by decide +kernel) (fun q => by cases q) (fun _ => Nat.le_of_ble_eq_true rfl) (pX12_mark_w hh s) x hx _ _ ⟨rfl, rfl⟩
end
section
variable {l : Launch} {n0 S0 : Nat} {mo : Nat} {h : aH}
abbrev MX12_back : aM := (cX12_back, RX12, 1, (some .int), false)
def pX12_back (s : RS) : Option (Int32 × RS) :=
  thn (uI s 1 (0 : Int32)) fun s1 =>
  thn (uI s1 0 (0 : Int32)) fun s2 =>
  if (s2.1 22) = 0 then
    (pX12_refuse s2 (8 : Int32)).bind fun x5 =>
    some (x5.1, x5.2)
  else
    (pX12_copy s2 (s2.1 22) (0 : Int32)).bind fun x3 =>
    thn (uI x3 22 ((x3.1 22) - (1 : Int32))) fun s4 =>
    some ((s4.1 22), s4)
theorem pX12_back_w (hh : mo + 18 ≤ h.2.1) (s : RS) : aS l 1 MX12_back n0 S0 (oΦ (fun (x : Int32 × RS) => (some (.int x.1), rH mo h x.2))) 0 [(0, .ref mo)] [] (rH mo h s) (pX12_back s) := by
  unfold pX12_back
  refine s_aload_n (pc := 0) 0 dX12_back_0 rfl ?_
  refine s_iconst (v := 0) (pc := 1) dX12_back_1 (by decide) ?_
  refine rp_75 hh (pc := 2) dX12_back_2 rfl (fun s1 => ?_)
  refine s_aload_n (pc := 5) 0 dX12_back_5 rfl ?_
  refine s_iconst (v := 0) (pc := 6) dX12_back_6 (by decide) ?_
  refine rp_78 hh (pc := 7) dX12_back_7 rfl (fun s2 => ?_)
  refine s_aload_n (pc := 10) 0 dX12_back_10 rfl ?_
  refine rg_504 hh (pc := 11) dX12_back_11 rfl ?_
  refine s_if_ne (tgt := 24) (pc := 14) dX12_back_14 (by decide) (fun _ => ?_) (fun _ => ?_)
  · refine s_aload_n (pc := 17) 0 dX12_back_17 rfl ?_
    refine s_bipush (v := 8) (pc := 18) dX12_back_18 (by decide) ?_
    refine s_callV (M := MX12_back) (As := [.int 8]) (st := []) (Ψ := fun (x : Int32 × RS) => (some (.int x.1), rH mo h x.2)) cv_X12_299 (by decide) (pc := 20) dX12_back_20 r_0 (r_lt (k := 0) hh (by decide)) rfl (Nat.le_of_ble_eq_true rfl) (fun x hx => pX12_refuse_ok hh s2 (8 : Int32) x hx) rfl (fun x5 _ => ?_)
    exact s_iret (pc := 23) dX12_back_23 rfl (fun _ _ q => q)
  · refine s_aload_n (pc := 24) 0 dX12_back_24 rfl ?_
    refine s_aload_n (pc := 25) 0 dX12_back_25 rfl ?_
    refine rg_504 hh (pc := 26) dX12_back_26 rfl ?_
    refine s_iconst (v := 0) (pc := 29) dX12_back_29 (by decide) ?_
    refine s_callV (M := MX12_back) (As := [.int (s2.1 22), .int 0]) (st := []) (Ψ := fun (x : RS) => (none, rH mo h x)) cv_X12_507 (by decide) (pc := 30) dX12_back_30 r_0 (r_lt (k := 0) hh (by decide)) rfl (Nat.le_of_ble_eq_true rfl) (fun x hx => pX12_copy_ok hh s2 (s2.1 22) (0 : Int32) x hx) rfl (fun x3 _ => ?_)
    refine s_aload_n (pc := 33) 0 dX12_back_33 rfl ?_
    refine s_dup (pc := 34) dX12_back_34 rfl ?_
    refine rg_504 hh (pc := 35) dX12_back_35 rfl ?_
    refine s_iconst (v := 1) (pc := 38) dX12_back_38 (by decide) ?_
    refine s_isub (pc := 39) dX12_back_39 ?_
    refine rp_504 hh (pc := 40) dX12_back_40 rfl (fun s4 => ?_)
    refine s_aload_n (pc := 43) 0 dX12_back_43 rfl ?_
    refine rg_504 hh (pc := 44) dX12_back_44 rfl ?_
    exact s_iret (pc := 47) dX12_back_47 rfl (fun _ _ q => q)
theorem pX12_back_ok (hh : mo + 18 ≤ h.2.1) (s : RS) : ∀ x, pX12_back s = some x → aMet l 1 yX12_back cX12_back 1 (some .int) [.ref mo] (rH mo h s) (some (.int x.1)) (rH mo h x.2) := fun x hx => a_meth (ini := false) (y := yX12_back) (by decide +kernel) (fun q => by cases q) (fun _ => Nat.le_of_ble_eq_true rfl) (pX12_back_w hh s) x hx _ _ ⟨rfl, rfl⟩
end
