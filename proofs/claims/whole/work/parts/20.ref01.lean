section
variable {l : Launch} {n0 S0 : Nat} {mo : Nat} {h : aH}
abbrev MX12_next : aM := (cX12_next, RX12, 2, none, false)
def X12_next_x8 (l : Launch) (n0 S0 : Nat) (mo : Nat) (h : aH) : RS → Option Value → aH → Prop := fun (x : RS) r h' => aEv l 1 MX12_next n0 S0 58 [(0, .ref mo)] [] (rH mo h x) r h'
def X12_next_j45 (s : RS) : Option (RS ⊕ RS) :=
  thn (uI s 15 ((s.1 15) + (1 : Int32))) fun s3 =>
  some (.inl s3)
theorem X12_next_j45_ok (hh : mo + 18 ≤ h.2.1) (s : RS) : aS l 1 MX12_next n0 S0 (a_LΦ (X12_next_x8 l n0 S0 mo h) l 1 MX12_next n0 S0 8 (fun (q : RS) => [(0, .ref mo)]) (fun _ => []) (fun (q : RS) => rH mo h q)) 45 [(0, .ref mo)] [] (rH mo h s) (X12_next_j45 s) := by
  unfold X12_next_j45
  refine s_aload_n (pc := 45) 0 dX12_next_45 rfl ?_
  refine s_dup (pc := 46) dX12_next_46 rfl ?_
  refine rg_120 hh (pc := 47) dX12_next_47 rfl ?_
  refine s_iconst (v := 1) (pc := 50) dX12_next_50 (by decide) ?_
  refine s_iadd (pc := 51) dX12_next_51 ?_
  refine rp_120 hh (pc := 52) dX12_next_52 rfl (fun s3 => ?_)
  refine s_goto (tgt := 8) (pc := 55) dX12_next_55 (by decide) ?_
  exact s_ev (fun _ _ q => q)
def X12_next_b8 (s : RS) : Option (RS ⊕ RS) :=
  if (s.1 9) ≤ (s.1 15) then
    some (.inr s)
  else
    (pX12_look2 s (s.1 15)).bind fun x2 =>
    if x2 = (10 : Int32) then
      X12_next_j45 s
    else
      (pX12_look2 s (s.1 15)).bind fun x4 =>
      if x4 = (32 : Int32) then
        X12_next_j45 s
      else
        some (.inr s)
theorem X12_next_b8_ok (hh : mo + 18 ≤ h.2.1) (s : RS) : aS l 1 MX12_next n0 S0 (a_LΦ (X12_next_x8 l n0 S0 mo h) l 1 MX12_next n0 S0 8 (fun (q : RS) => [(0, .ref mo)]) (fun _ => []) (fun (q : RS) => rH mo h q)) 8 [(0, .ref mo)] [] (rH mo h s) (X12_next_b8 s) := by
  unfold X12_next_b8
  refine s_aload_n (pc := 8) 0 dX12_next_8 rfl ?_
  refine rg_120 hh (pc := 9) dX12_next_9 rfl ?_
  refine s_aload_n (pc := 12) 0 dX12_next_12 rfl ?_
  refine rg_114 hh (pc := 13) dX12_next_13 rfl ?_
  refine s_icmp_ge (tgt := 58) (pc := 16) dX12_next_16 (by decide) (fun _ => ?_) (fun _ => ?_)
  · exact s_ev (fun _ _ q => q)
  · refine s_aload_n (pc := 19) 0 dX12_next_19 rfl ?_
    refine s_aload_n (pc := 20) 0 dX12_next_20 rfl ?_
    refine rg_120 hh (pc := 21) dX12_next_21 rfl ?_
    refine s_callV (M := MX12_next) (As := [.int (s.1 15)]) (st := []) (Ψ := fun (x : Int32) => (some (.int x), rH mo h s)) cv_X12_123 (by decide) (pc := 24) dX12_next_24 r_0 (r_lt (k := 0) hh (by decide)) rfl (Nat.le_of_ble_eq_true rfl) (fun x hx => pX12_look2_ok hh s (s.1 15) x hx) rfl (fun x2 _ => ?_)
    refine s_bipush (v := 10) (pc := 27) dX12_next_27 (by decide) ?_
    refine s_icmp_eq (tgt := 45) (pc := 29) dX12_next_29 (by decide) (fun _ => ?_) (fun _ => ?_)
    · exact X12_next_j45_ok hh s
    · refine s_aload_n (pc := 32) 0 dX12_next_32 rfl ?_
      refine s_aload_n (pc := 33) 0 dX12_next_33 rfl ?_
      refine rg_120 hh (pc := 34) dX12_next_34 rfl ?_
      refine s_callV (M := MX12_next) (As := [.int (s.1 15)]) (st := []) (Ψ := fun (x : Int32) => (some (.int x), rH mo h s)) cv_X12_123 (by decide) (pc := 37) dX12_next_37 r_0 (r_lt (k := 0) hh (by decide)) rfl (Nat.le_of_ble_eq_true rfl) (fun x hx => pX12_look2_ok hh s (s.1 15) x hx) rfl (fun x4 _ => ?_)
      refine s_bipush (v := 32) (pc := 40) dX12_next_40 (by decide) ?_
      refine s_icmp_ne (tgt := 58) (pc := 42) dX12_next_42 (by decide) (fun _ => ?_) (fun _ => ?_)
      · exact X12_next_j45_ok hh s
      · exact s_ev (fun _ _ q => q)
def X12_next_j320 (k1 : Int32) (s : RS) : Option RS :=
  thn (uI s 14 k1) fun s11 =>
  some s11
theorem X12_next_j320_ok (hh : mo + 18 ≤ h.2.1) (k1 : Int32) (s : RS) : aS l 1 MX12_next n0 S0 (oΦ (fun (x : RS) => (none, rH mo h x))) 320 [] [.int k1, .ref mo] (rH mo h s) (X12_next_j320 k1 s) := by
  unfold X12_next_j320
  refine rp_126 hh (pc := 320) dX12_next_320 rfl (fun s11 => ?_)
  exact s_vret (pc := 323) dX12_next_323 rfl (fun _ _ q => q)
def X12_next_x210 (l : Launch) (n0 S0 : Nat) (mo : Nat) (h : aH) : RS → Option Value → aH → Prop := fun (x : RS) r h' => aEv l 1 MX12_next n0 S0 273 [(0, .ref mo)] [] (rH mo h x) r h'
def X12_next_j260 (s : RS) : Option (RS ⊕ RS) :=
  thn (uI s 16 ((s.1 16) + (1 : Int32))) fun s15 =>
  some (.inl s15)
theorem X12_next_j260_ok (hh : mo + 18 ≤ h.2.1) (s : RS) : aS l 1 MX12_next n0 S0 (a_LΦ (X12_next_x210 l n0 S0 mo h) l 1 MX12_next n0 S0 210 (fun (q : RS) => [(0, .ref mo)]) (fun _ => []) (fun (q : RS) => rH mo h q)) 260 [(0, .ref mo)] [] (rH mo h s) (X12_next_j260 s) := by
  unfold X12_next_j260
  refine s_aload_n (pc := 260) 0 dX12_next_260 rfl ?_
  refine s_dup (pc := 261) dX12_next_261 rfl ?_
  refine rg_117 hh (pc := 262) dX12_next_262 rfl ?_
  refine s_iconst (v := 1) (pc := 265) dX12_next_265 (by decide) ?_
  refine s_iadd (pc := 266) dX12_next_266 ?_
  refine rp_117 hh (pc := 267) dX12_next_267 rfl (fun s15 => ?_)
  refine s_goto (tgt := 210) (pc := 270) dX12_next_270 (by decide) ?_
  exact s_ev (fun _ _ q => q)
def X12_next_b210 (s : RS) : Option (RS ⊕ RS) :=
  (pX12_look2 s (s.1 16)).bind fun x13 =>
  (pX12_isDigit x13).bind fun x14 =>
  if x14 = true then
    if (4 : Int32) ≤ ((s.1 16) - (s.1 15)) then
      X12_next_j260 s
    else
      (pX12_look2 s (s.1 16)).bind fun x16 =>
      thn (uI s 17 ((((10 : Int32) * (s.1 17)) + x16) - (48 : Int32))) fun s17 =>
      X12_next_j260 s17
  else
    some (.inr s)
theorem X12_next_b210_ok (hh : mo + 18 ≤ h.2.1) (s : RS) : aS l 1 MX12_next n0 S0 (a_LΦ (X12_next_x210 l n0 S0 mo h) l 1 MX12_next n0 S0 210 (fun (q : RS) => [(0, .ref mo)]) (fun _ => []) (fun (q : RS) => rH mo h q)) 210 [(0, .ref mo)] [] (rH mo h s) (X12_next_b210 s) := by
  unfold X12_next_b210
  refine s_aload_n (pc := 210) 0 dX12_next_210 rfl ?_
  refine s_aload_n (pc := 211) 0 dX12_next_211 rfl ?_
  refine rg_117 hh (pc := 212) dX12_next_212 rfl ?_
  refine s_callV (M := MX12_next) (As := [.int (s.1 16)]) (st := []) (Ψ := fun (x : Int32) => (some (.int x), rH mo h s)) cv_X12_123 (by decide) (pc := 215) dX12_next_215 r_0 (r_lt (k := 0) hh (by decide)) rfl (Nat.le_of_ble_eq_true rfl) (fun x hx => pX12_look2_ok hh s (s.1 16) x hx) rfl (fun x13 _ => ?_)
  refine s_callS (M := MX12_next) (As := [.int x13]) (st := []) (Ψ := fun (x : Bool) => (some (.int (b2i x)), rH mo h s)) cs_X12_142 (by decide) (pc := 218) dX12_next_218 rfl (Nat.le_of_ble_eq_true rfl) (fun x hx => pX12_isDigit_ok x13 x hx) rfl (fun x14 _ => ?_)
  refine s_if_eqB (tgt := 273) (pc := 221) dX12_next_221 (by decide) (fun _ => ?_) (fun _ => ?_)
  · refine s_aload_n (pc := 224) 0 dX12_next_224 rfl ?_
    refine rg_117 hh (pc := 225) dX12_next_225 rfl ?_
    refine s_aload_n (pc := 228) 0 dX12_next_228 rfl ?_
    refine rg_120 hh (pc := 229) dX12_next_229 rfl ?_
    refine s_isub (pc := 232) dX12_next_232 ?_
    refine s_iconst (v := 4) (pc := 233) dX12_next_233 (by decide) ?_
    refine s_icmp_ge (tgt := 260) (pc := 234) dX12_next_234 (by decide) (fun _ => ?_) (fun _ => ?_)
    · exact X12_next_j260_ok hh s
    · refine s_aload_n (pc := 237) 0 dX12_next_237 rfl ?_
      refine s_bipush (v := 10) (pc := 238) dX12_next_238 (by decide) ?_
      refine s_aload_n (pc := 240) 0 dX12_next_240 rfl ?_
      refine rg_145 hh (pc := 241) dX12_next_241 rfl ?_
      refine s_imul (pc := 244) dX12_next_244 ?_
      refine s_aload_n (pc := 245) 0 dX12_next_245 rfl ?_
      refine s_aload_n (pc := 246) 0 dX12_next_246 rfl ?_
      refine rg_117 hh (pc := 247) dX12_next_247 rfl ?_
      refine s_callV (M := MX12_next) (As := [.int (s.1 16)]) (st := [.int ((10 : Int32) * (s.1 17)), .ref mo]) (Ψ := fun (x : Int32) => (some (.int x), rH mo h s)) cv_X12_123 (by decide) (pc := 250) dX12_next_250 r_0 (r_lt (k := 0) hh (by decide)) rfl (Nat.le_of_ble_eq_true rfl) (fun x hx => pX12_look2_ok hh s (s.1 16) x hx) rfl (fun x16 _ => ?_)
      refine s_iadd (pc := 253) dX12_next_253 ?_
      refine s_bipush (v := 48) (pc := 254) dX12_next_254 (by decide) ?_
      refine s_isub (pc := 256) dX12_next_256 ?_
      refine rp_145 hh (pc := 257) dX12_next_257 rfl (fun s17 => ?_)
      exact X12_next_j260_ok hh s17
  · exact s_ev (fun _ _ q => q)
def X12_next_j292 (k1 : Int32) (s : RS) : Option RS :=
  thn (uI s 14 k1) fun s19 =>
  some s19
theorem X12_next_j292_ok (hh : mo + 18 ≤ h.2.1) (k1 : Int32) (s : RS) : aS l 1 MX12_next n0 S0 (oΦ (fun (x : RS) => (none, rH mo h x))) 292 [] [.int k1, .ref mo] (rH mo h s) (X12_next_j292 k1 s) := by
  unfold X12_next_j292
  refine rp_126 hh (pc := 292) dX12_next_292 rfl (fun s19 => ?_)
  refine s_goto (tgt := 323) (pc := 295) dX12_next_295 (by decide) ?_
  exact s_vret (pc := 323) dX12_next_323 rfl (fun _ _ q => q)
def X12_next_x109 (l : Launch) (n0 S0 : Nat) (mo : Nat) (h : aH) : RS → Option Value → aH → Prop := fun (x : RS) r h' => aEv l 1 MX12_next n0 S0 182 [(0, .ref mo)] [] (rH mo h x) r h'
def X12_next_j166 (k1 : Int64) (s : RS) : Option (RS ⊕ RS) :=
  thn (uL s 19 k1) fun s24 =>
  thn (uI s24 16 ((s24.1 16) + (1 : Int32))) fun s25 =>
  some (.inl s25)
theorem X12_next_j166_ok (hh : mo + 18 ≤ h.2.1) (k1 : Int64) (s : RS) : aS l 1 MX12_next n0 S0 (a_LΦ (X12_next_x109 l n0 S0 mo h) l 1 MX12_next n0 S0 109 (fun (q : RS) => [(0, .ref mo)]) (fun _ => []) (fun (q : RS) => rH mo h q)) 166 [(0, .ref mo)] [.long k1, .ref mo] (rH mo h s) (X12_next_j166 k1 s) := by
  unfold X12_next_j166
  refine rp_132 hh (pc := 166) dX12_next_166 rfl (fun s24 => ?_)
  refine s_aload_n (pc := 169) 0 dX12_next_169 rfl ?_
  refine s_dup (pc := 170) dX12_next_170 rfl ?_
  refine rg_117 hh (pc := 171) dX12_next_171 rfl ?_
  refine s_iconst (v := 1) (pc := 174) dX12_next_174 (by decide) ?_
  refine s_iadd (pc := 175) dX12_next_175 ?_
  refine rp_117 hh (pc := 176) dX12_next_176 rfl (fun s25 => ?_)
  refine s_goto (tgt := 109) (pc := 179) dX12_next_179 (by decide) ?_
  exact s_ev (fun _ _ q => q)
def X12_next_b109 (s : RS) : Option (RS ⊕ RS) :=
  (pX12_look2 s (s.1 16)).bind fun x22 =>
  (pX12_isLetter x22).bind fun x23 =>
  if x23 = true then
    if (8 : Int32) ≤ ((s.1 16) - (s.1 15)) then
      X12_next_j166 (-1 : Int64) s
    else
      (pX12_look2 s (s.1 16)).bind fun x26 =>
      X12_next_j166 ((((s.2.1 19) * (32 : Int64)) + x26.toInt64) - (96 : Int64)) s
  else
    some (.inr s)
theorem X12_next_b109_ok (hh : mo + 18 ≤ h.2.1) (s : RS) : aS l 1 MX12_next n0 S0 (a_LΦ (X12_next_x109 l n0 S0 mo h) l 1 MX12_next n0 S0 109 (fun (q : RS) => [(0, .ref mo)]) (fun _ => []) (fun (q : RS) => rH mo h q)) 109 [(0, .ref mo)] [] (rH mo h s) (X12_next_b109 s) := by
  unfold X12_next_b109
  refine s_aload_n (pc := 109) 0 dX12_next_109 rfl ?_
  refine s_aload_n (pc := 110) 0 dX12_next_110 rfl ?_
  refine rg_117 hh (pc := 111) dX12_next_111 rfl ?_
  refine s_callV (M := MX12_next) (As := [.int (s.1 16)]) (st := []) (Ψ := fun (x : Int32) => (some (.int x), rH mo h s)) cv_X12_123 (by decide) (pc := 114) dX12_next_114 r_0 (r_lt (k := 0) hh (by decide)) rfl (Nat.le_of_ble_eq_true rfl) (fun x hx => pX12_look2_ok hh s (s.1 16) x hx) rfl (fun x22 _ => ?_)
  refine s_callS (M := MX12_next) (As := [.int x22]) (st := []) (Ψ := fun (x : Bool) => (some (.int (b2i x)), rH mo h s)) cs_X12_129 (by decide) (pc := 117) dX12_next_117 rfl (Nat.le_of_ble_eq_true rfl) (fun x hx => pX12_isLetter_ok x22 x hx) rfl (fun x23 _ => ?_)
  refine s_if_eqB (tgt := 182) (pc := 120) dX12_next_120 (by decide) (fun _ => ?_) (fun _ => ?_)
  · refine s_aload_n (pc := 123) 0 dX12_next_123 rfl ?_
    refine s_aload_n (pc := 124) 0 dX12_next_124 rfl ?_
    refine rg_117 hh (pc := 125) dX12_next_125 rfl ?_
    refine s_aload_n (pc := 128) 0 dX12_next_128 rfl ?_
    refine rg_120 hh (pc := 129) dX12_next_129 rfl ?_
    refine s_isub (pc := 132) dX12_next_132 ?_
    refine s_bipush (v := 8) (pc := 133) dX12_next_133 (by decide) ?_
    refine s_icmp_ge (tgt := 163) (pc := 135) dX12_next_135 (by decide) (fun _ => ?_) (fun _ => ?_)
    · refine s_ldc2 (v := (-1)) (pc := 163) dX12_next_163 wk_X12_106 ?_
      exact X12_next_j166_ok hh (-1 : Int64) s
    · refine s_aload_n (pc := 138) 0 dX12_next_138 rfl ?_
      refine rg_132 hh (pc := 139) dX12_next_139 rfl ?_
      refine s_ldc2 (v := 32) (pc := 142) dX12_next_142 wk_X12_135 ?_
      refine s_lmul (pc := 145) dX12_next_145 ?_
      refine s_aload_n (pc := 146) 0 dX12_next_146 rfl ?_
      refine s_aload_n (pc := 147) 0 dX12_next_147 rfl ?_
      refine rg_117 hh (pc := 148) dX12_next_148 rfl ?_
      refine s_callV (M := MX12_next) (As := [.int (s.1 16)]) (st := [.long ((s.2.1 19) * (32 : Int64)), .ref mo]) (Ψ := fun (x : Int32) => (some (.int x), rH mo h s)) cv_X12_123 (by decide) (pc := 151) dX12_next_151 r_0 (r_lt (k := 0) hh (by decide)) rfl (Nat.le_of_ble_eq_true rfl) (fun x hx => pX12_look2_ok hh s (s.1 16) x hx) rfl (fun x26 _ => ?_)
      refine s_i2l (pc := 154) dX12_next_154 ?_
      refine s_ladd (pc := 155) dX12_next_155 ?_
      refine s_ldc2 (v := 96) (pc := 156) dX12_next_156 wk_X12_137 ?_
      refine s_lsub (pc := 159) dX12_next_159 ?_
      refine s_goto (tgt := 166) (pc := 160) dX12_next_160 (by decide) ?_
      exact X12_next_j166_ok hh ((((s.2.1 19) * (32 : Int64)) + x26.toInt64) - (96 : Int64)) s
  · exact s_ev (fun _ _ q => q)
def X12_next_j58 (s : RS) : Option RS :=
  thn (uI s 16 (s.1 15)) fun s6 =>
  if (s6.1 15) < (s6.1 9) then
    (pX12_look2 s6 (s6.1 15)).bind fun x7 =>
    (pX12_isLetter x7).bind fun x8 =>
    if x8 = true then
      thn (uI s6 14 (1 : Int32)) fun s20 =>
      thn (uL s20 19 (0 : Int64)) fun s21 =>
      (a_loop (fun (q : RS) => X12_next_b109 q) FU s21).bind fun (t27 : RS) =>
        thn (uI t27 18 ((t27.1 16) - (t27.1 15))) fun s28 =>
        some s28
    else
      (pX12_isDigit x7).bind fun x9 =>
      if x9 = true then
        thn (uI s6 17 (0 : Int32)) fun s12 =>
        (a_loop (fun (q : RS) => X12_next_b210 q) FU s12).bind fun (t18 : RS) =>
          if ((t18.1 16) - (t18.1 15)) ≤ (4 : Int32) then
            X12_next_j292 (2 : Int32) t18
          else
            X12_next_j292 (4 : Int32) t18
      else
        thn (uI s6 16 ((s6.1 15) + (1 : Int32))) fun s10 =>
        if x7 = (59 : Int32) then
          X12_next_j320 (3 : Int32) s10
        else
          X12_next_j320 (4 : Int32) s10
  else
    thn (uI s6 14 (0 : Int32)) fun s29 =>
    some s29
theorem X12_next_j58_ok (hh : mo + 18 ≤ h.2.1) (s : RS) : aS l 1 MX12_next n0 S0 (oΦ (fun (x : RS) => (none, rH mo h x))) 58 [(0, .ref mo)] [] (rH mo h s) (X12_next_j58 s) := by
  unfold X12_next_j58
  refine s_aload_n (pc := 58) 0 dX12_next_58 rfl ?_
  refine s_aload_n (pc := 59) 0 dX12_next_59 rfl ?_
  refine rg_120 hh (pc := 60) dX12_next_60 rfl ?_
  refine rp_117 hh (pc := 63) dX12_next_63 rfl (fun s6 => ?_)
  refine s_aload_n (pc := 66) 0 dX12_next_66 rfl ?_
  refine rg_120 hh (pc := 67) dX12_next_67 rfl ?_
  refine s_aload_n (pc := 70) 0 dX12_next_70 rfl ?_
  refine rg_114 hh (pc := 71) dX12_next_71 rfl ?_
  refine s_icmp_lt (tgt := 83) (pc := 74) dX12_next_74 (by decide) (fun _ => ?_) (fun _ => ?_)
  · refine s_aload_n (pc := 83) 0 dX12_next_83 rfl ?_
    refine s_aload_n (pc := 84) 0 dX12_next_84 rfl ?_
    refine rg_120 hh (pc := 85) dX12_next_85 rfl ?_
    refine s_callV (M := MX12_next) (As := [.int (s6.1 15)]) (st := []) (Ψ := fun (x : Int32) => (some (.int x), rH mo h s6)) cv_X12_123 (by decide) (pc := 88) dX12_next_88 r_0 (r_lt (k := 0) hh (by decide)) rfl (Nat.le_of_ble_eq_true rfl) (fun x hx => pX12_look2_ok hh s6 (s6.1 15) x hx) rfl (fun x7 _ => ?_)
    refine s_istore_n (lv' := [(1, .int x7), (0, .ref mo)]) (pc := 91) dX12_next_91 (by decide) rfl ?_
    refine s_iload_n (pc := 92) 0 dX12_next_92 rfl ?_
    refine s_callS (M := MX12_next) (As := [.int x7]) (st := []) (Ψ := fun (x : Bool) => (some (.int (b2i x)), rH mo h s6)) cs_X12_129 (by decide) (pc := 93) dX12_next_93 rfl (Nat.le_of_ble_eq_true rfl) (fun x hx => pX12_isLetter_ok x7 x hx) rfl (fun x8 _ => ?_)
    refine s_if_eqB (tgt := 198) (pc := 96) dX12_next_96 (by decide) (fun _ => ?_) (fun _ => ?_)
    · refine s_aload_n (pc := 99) 1 dX12_next_99 rfl ?_
      refine s_iconst (v := 1) (pc := 100) dX12_next_100 (by decide) ?_
      refine rp_126 hh (pc := 101) dX12_next_101 rfl (fun s20 => ?_)
      refine s_aload_n (pc := 104) 1 dX12_next_104 rfl ?_
      refine s_lconst (v := 0) (pc := 105) dX12_next_105 (by decide) ?_
      refine rp_132 hh (pc := 106) dX12_next_106 rfl (fun s21 => ?_)
      refine s_bind (Ψ := X12_next_x109 l n0 S0 mo h) ?_ ?_
      · refine s_sub [1] rfl ?_
        exact s_loop (lvf := fun (q : RS) => [(0, .ref mo)]) (stf := fun _ => []) (hf := fun (q : RS) => rH mo h q) (fun q => X12_next_b109_ok hh q) FU s21
      · intro t27 z r h' hz hr
        refine (?_ : aS l 1 MX12_next n0 S0 (oΦ (fun (x : RS) => (none, rH mo h x))) 182 [(0, .ref mo)] [] (rH mo h t27) _) z hz r h' hr
        refine s_aload_n (pc := 182) 0 dX12_next_182 rfl ?_
        refine s_aload_n (pc := 183) 0 dX12_next_183 rfl ?_
        refine rg_117 hh (pc := 184) dX12_next_184 rfl ?_
        refine s_aload_n (pc := 187) 0 dX12_next_187 rfl ?_
        refine rg_120 hh (pc := 188) dX12_next_188 rfl ?_
        refine s_isub (pc := 191) dX12_next_191 ?_
        refine rp_139 hh (pc := 192) dX12_next_192 rfl (fun s28 => ?_)
        refine s_goto (tgt := 323) (pc := 195) dX12_next_195 (by decide) ?_
        exact s_vret (pc := 323) dX12_next_323 rfl (fun _ _ q => q)
    · refine s_iload_n (pc := 198) 0 dX12_next_198 rfl ?_
      refine s_callS (M := MX12_next) (As := [.int x7]) (st := []) (Ψ := fun (x : Bool) => (some (.int (b2i x)), rH mo h s6)) cs_X12_142 (by decide) (pc := 199) dX12_next_199 rfl (Nat.le_of_ble_eq_true rfl) (fun x hx => pX12_isDigit_ok x7 x hx) rfl (fun x9 _ => ?_)
      refine s_if_eqB (tgt := 298) (pc := 202) dX12_next_202 (by decide) (fun _ => ?_) (fun _ => ?_)
      · refine s_aload_n (pc := 205) 1 dX12_next_205 rfl ?_
        refine s_iconst (v := 0) (pc := 206) dX12_next_206 (by decide) ?_
        refine rp_145 hh (pc := 207) dX12_next_207 rfl (fun s12 => ?_)
        refine s_bind (Ψ := X12_next_x210 l n0 S0 mo h) ?_ ?_
        · refine s_sub [1] rfl ?_
          exact s_loop (lvf := fun (q : RS) => [(0, .ref mo)]) (stf := fun _ => []) (hf := fun (q : RS) => rH mo h q) (fun q => X12_next_b210_ok hh q) FU s12
        · intro t18 z r h' hz hr
          refine (?_ : aS l 1 MX12_next n0 S0 (oΦ (fun (x : RS) => (none, rH mo h x))) 273 [(0, .ref mo)] [] (rH mo h t18) _) z hz r h' hr
          refine s_aload_n (pc := 273) 0 dX12_next_273 rfl ?_
          refine s_aload_n (pc := 274) 0 dX12_next_274 rfl ?_
          refine rg_117 hh (pc := 275) dX12_next_275 rfl ?_
          refine s_aload_n (pc := 278) 0 dX12_next_278 rfl ?_
          refine rg_120 hh (pc := 279) dX12_next_279 rfl ?_
          refine s_isub (pc := 282) dX12_next_282 ?_
          refine s_iconst (v := 4) (pc := 283) dX12_next_283 (by decide) ?_
          refine s_icmp_le (tgt := 291) (pc := 284) dX12_next_284 (by decide) (fun _ => ?_) (fun _ => ?_)
          · refine s_iconst (v := 2) (pc := 291) dX12_next_291 (by decide) ?_
            refine s_sub [] rfl ?_
            exact X12_next_j292_ok hh (2 : Int32) t18
          · refine s_iconst (v := 4) (pc := 287) dX12_next_287 (by decide) ?_
            refine s_goto (tgt := 292) (pc := 288) dX12_next_288 (by decide) ?_
            refine s_sub [] rfl ?_
            exact X12_next_j292_ok hh (4 : Int32) t18
      · refine s_aload_n (pc := 298) 1 dX12_next_298 rfl ?_
        refine s_aload_n (pc := 299) 1 dX12_next_299 rfl ?_
        refine rg_120 hh (pc := 300) dX12_next_300 rfl ?_
        refine s_iconst (v := 1) (pc := 303) dX12_next_303 (by decide) ?_
        refine s_iadd (pc := 304) dX12_next_304 ?_
        refine rp_117 hh (pc := 305) dX12_next_305 rfl (fun s10 => ?_)
        refine s_aload_n (pc := 308) 1 dX12_next_308 rfl ?_
        refine s_iload_n (pc := 309) 0 dX12_next_309 rfl ?_
        refine s_bipush (v := 59) (pc := 310) dX12_next_310 (by decide) ?_
        refine s_icmp_ne (tgt := 319) (pc := 312) dX12_next_312 (by decide) (fun _ => ?_) (fun _ => ?_)
        · refine s_iconst (v := 3) (pc := 315) dX12_next_315 (by decide) ?_
          refine s_goto (tgt := 320) (pc := 316) dX12_next_316 (by decide) ?_
          refine s_sub [] rfl ?_
          exact X12_next_j320_ok hh (3 : Int32) s10
        · refine s_iconst (v := 4) (pc := 319) dX12_next_319 (by decide) ?_
          refine s_sub [] rfl ?_
          exact X12_next_j320_ok hh (4 : Int32) s10
  · refine s_aload_n (pc := 77) 0 dX12_next_77 rfl ?_
    refine s_iconst (v := 0) (pc := 78) dX12_next_78 (by decide) ?_
    refine rp_126 hh (pc := 79) dX12_next_79 rfl (fun s29 => ?_)
    exact s_vret (pc := 82) dX12_next_82 rfl (fun _ _ q => q)
def pX12_next (s : RS) : Option RS :=
  thn (uI s 15 (s.1 16)) fun s1 =>
  (a_loop (fun (q : RS) => X12_next_b8 q) FU s1).bind fun (t5 : RS) =>
    X12_next_j58 t5
theorem pX12_next_w (hh : mo + 18 ≤ h.2.1) (s : RS) : aS l 1 MX12_next n0 S0 (oΦ (fun (x : RS) => (none, rH mo h x))) 0 [(0, .ref mo)] [] (rH mo h s) (pX12_next s) := by
  unfold pX12_next
  refine s_aload_n (pc := 0) 0 dX12_next_0 rfl ?_
  refine s_aload_n (pc := 1) 0 dX12_next_1 rfl ?_
  refine rg_117 hh (pc := 2) dX12_next_2 rfl ?_
  refine rp_120 hh (pc := 5) dX12_next_5 rfl (fun s1 => ?_)
  refine s_bind (Ψ := X12_next_x8 l n0 S0 mo h) ?_ ?_
  · exact s_loop (lvf := fun (q : RS) => [(0, .ref mo)]) (stf := fun _ => []) (hf := fun (q : RS) => rH mo h q) (fun q => X12_next_b8_ok hh q) FU s1
  · intro t5 z r h' hz hr
    refine (?_ : aS l 1 MX12_next n0 S0 (oΦ (fun (x : RS) => (none, rH mo h x))) 58 [(0, .ref mo)] [] (rH mo h t5) _) z hz r h' hr
    exact X12_next_j58_ok hh t5
theorem pX12_next_ok (hh : mo + 18 ≤ h.2.1) (s : RS) : ∀ x, pX12_next s = some x → aMet l 1 yX12_next cX12_next 2 none [.ref mo] (rH mo h s) none (rH mo h x) := fun x hx => a_meth (ini := false) (y := yX12_next) (by decide +kernel) (fun q => by cases q) (fun _ => Nat.le_of_ble_eq_true rfl) (pX12_next_w hh s) x hx _ _ ⟨rfl, rfl⟩
end
section
variable {l : Launch} {n0 S0 : Nat} {mo : Nat} {h : aH}
abbrev MX12_isClose : aM := (cX12_isClose, RX12, 1, (some .boolean), false)
def pX12_isClose (s : RS) : Option Bool :=
  if (s.1 14) = (3 : Int32) then
    some true
  else
    some false
theorem pX12_isClose_w (hh : mo + 18 ≤ h.2.1) (s : RS) : aS l 0 MX12_isClose n0 S0 (oΦ (fun (x : Bool) => (some (.int (b2i x)), rH mo h s))) 0 [(0, .ref mo)] [] (rH mo h s) (pX12_isClose s) := by
  unfold pX12_isClose
  refine s_aload_n (pc := 0) 0 dX12_isClose_0 rfl ?_
  refine rg_126 hh (pc := 1) dX12_isClose_1 rfl ?_
  refine s_iconst (v := 3) (pc := 4) dX12_isClose_4 (by decide) ?_
  refine s_icmp_ne (tgt := 12) (pc := 5) dX12_isClose_5 (by decide) (fun _ => ?_) (fun _ => ?_)
  · refine s_iconst (v := 1) (pc := 8) dX12_isClose_8 (by decide) ?_
    refine s_goto (tgt := 13) (pc := 9) dX12_isClose_9 (by decide) ?_
    exact s_zretB (b := true) (pc := 13) dX12_isClose_13 rfl (fun _ _ q => q)
  · refine s_iconst (v := 0) (pc := 12) dX12_isClose_12 (by decide) ?_
    exact s_zretB (b := false) (pc := 13) dX12_isClose_13 rfl (fun _ _ q => q)
theorem pX12_isClose_ok (hh : mo + 18 ≤ h.2.1) (s : RS) : ∀ x, pX12_isClose s = some x → aMet l 0 yX12_isClose cX12_isClose 1 (some .boolean) [.ref mo] (rH mo h s) (some (.int (b2i x))) (rH mo h s) := fun x hx => a_meth (ini := false) (y := yX12_isClose) (by decide +kernel) (fun q => by cases q) (fun _ => Nat.le_of_ble_eq_true rfl) (pX12_isClose_w hh s) x hx _ _ ⟨rfl, rfl⟩
end
section
variable {l : Launch} {n0 S0 : Nat} {mo : Nat} {h : aH}
abbrev MX12_spelled : aM := (cX12_spelled, RX12, 8, (some .long), false)
def X12_spelled_j91 (v5 : Int32) (k0 : Int64) : Option Int64 :=
  if v5 ≤ 0 then
    some k0
  else
    some (((k0 * (32 : Int64)) + v5.toInt64) - (96 : Int64))
theorem X12_spelled_j91_ok (v5 : Int32) (k0 : Int64) : aS l 0 MX12_spelled n0 S0 (oΦ (fun (x : Int64) => (some (.long x), h))) 91 [(5, .int v5)] [.long k0] h (X12_spelled_j91 v5 k0) := by
  unfold X12_spelled_j91
  refine s_lstore (lv' := [(6, .long k0), (5, .int v5)]) (pc := 91) dX12_spelled_91 (by decide) rfl ?_
  refine s_iload (pc := 93) 1 dX12_spelled_93 rfl ?_
  refine s_if_le (tgt := 115) (pc := 95) dX12_spelled_95 (by decide) (fun _ => ?_) (fun _ => ?_)
  · refine s_lload (pc := 115) 0 dX12_spelled_115 rfl ?_
    exact s_lret (pc := 117) dX12_spelled_117 rfl (fun _ _ q => q)
  · refine s_lload (pc := 98) 0 dX12_spelled_98 rfl ?_
    refine s_ldc2 (v := 32) (pc := 100) dX12_spelled_100 wk_X12_135 ?_
    refine s_lmul (pc := 103) dX12_spelled_103 ?_
    refine s_iload (pc := 104) 1 dX12_spelled_104 rfl ?_
    refine s_i2l (pc := 106) dX12_spelled_106 ?_
    refine s_ladd (pc := 107) dX12_spelled_107 ?_
    refine s_ldc2 (v := 96) (pc := 108) dX12_spelled_108 wk_X12_137 ?_
    refine s_lsub (pc := 111) dX12_spelled_111 ?_
    refine s_goto (tgt := 117) (pc := 112) dX12_spelled_112 (by decide) ?_
    exact s_lret (pc := 117) dX12_spelled_117 rfl (fun _ _ q => q)
def X12_spelled_j65 (v4 : Int32) (v5 : Int32) (k0 : Int64) : Option Int64 :=
  if v4 ≤ 0 then
    X12_spelled_j91 v5 k0
  else
    X12_spelled_j91 v5 (((k0 * (32 : Int64)) + v4.toInt64) - (96 : Int64))
theorem X12_spelled_j65_ok (v4 : Int32) (v5 : Int32) (k0 : Int64) : aS l 0 MX12_spelled n0 S0 (oΦ (fun (x : Int64) => (some (.long x), h))) 65 [(4, .int v4), (5, .int v5)] [.long k0] h (X12_spelled_j65 v4 v5 k0) := by
  unfold X12_spelled_j65
  refine s_lstore (lv' := [(6, .long k0), (4, .int v4), (5, .int v5)]) (pc := 65) dX12_spelled_65 (by decide) rfl ?_
  refine s_iload (pc := 67) 1 dX12_spelled_67 rfl ?_
  refine s_if_le (tgt := 89) (pc := 69) dX12_spelled_69 (by decide) (fun _ => ?_) (fun _ => ?_)
  · refine s_lload (pc := 89) 0 dX12_spelled_89 rfl ?_
    refine s_sub [2] rfl ?_
    exact X12_spelled_j91_ok  v5 k0
  · refine s_lload (pc := 72) 0 dX12_spelled_72 rfl ?_
    refine s_ldc2 (v := 32) (pc := 74) dX12_spelled_74 wk_X12_135 ?_
    refine s_lmul (pc := 77) dX12_spelled_77 ?_
    refine s_iload (pc := 78) 1 dX12_spelled_78 rfl ?_
    refine s_i2l (pc := 80) dX12_spelled_80 ?_
    refine s_ladd (pc := 81) dX12_spelled_81 ?_
    refine s_ldc2 (v := 96) (pc := 82) dX12_spelled_82 wk_X12_137 ?_
    refine s_lsub (pc := 85) dX12_spelled_85 ?_
    refine s_goto (tgt := 91) (pc := 86) dX12_spelled_86 (by decide) ?_
    refine s_sub [2] rfl ?_
    exact X12_spelled_j91_ok  v5 (((k0 * (32 : Int64)) + v4.toInt64) - (96 : Int64))
def X12_spelled_j41 (v3 : Int32) (v4 : Int32) (v5 : Int32) (k0 : Int64) : Option Int64 :=
  if v3 ≤ 0 then
    X12_spelled_j65 v4 v5 k0
  else
    X12_spelled_j65 v4 v5 (((k0 * (32 : Int64)) + v3.toInt64) - (96 : Int64))
theorem X12_spelled_j41_ok (v3 : Int32) (v4 : Int32) (v5 : Int32) (k0 : Int64) : aS l 0 MX12_spelled n0 S0 (oΦ (fun (x : Int64) => (some (.long x), h))) 41 [(3, .int v3), (4, .int v4), (5, .int v5)] [.long k0] h (X12_spelled_j41 v3 v4 v5 k0) := by
  unfold X12_spelled_j41
  refine s_lstore (lv' := [(6, .long k0), (3, .int v3), (4, .int v4), (5, .int v5)]) (pc := 41) dX12_spelled_41 (by decide) rfl ?_
  refine s_iload_n (pc := 43) 1 dX12_spelled_43 rfl ?_
  refine s_if_le (tgt := 63) (pc := 44) dX12_spelled_44 (by decide) (fun _ => ?_) (fun _ => ?_)
  · refine s_lload (pc := 63) 0 dX12_spelled_63 rfl ?_
    refine s_sub [2, 3] rfl ?_
    exact X12_spelled_j65_ok  v4 v5 k0
  · refine s_lload (pc := 47) 0 dX12_spelled_47 rfl ?_
    refine s_ldc2 (v := 32) (pc := 49) dX12_spelled_49 wk_X12_135 ?_
    refine s_lmul (pc := 52) dX12_spelled_52 ?_
    refine s_iload_n (pc := 53) 1 dX12_spelled_53 rfl ?_
    refine s_i2l (pc := 54) dX12_spelled_54 ?_
    refine s_ladd (pc := 55) dX12_spelled_55 ?_
    refine s_ldc2 (v := 96) (pc := 56) dX12_spelled_56 wk_X12_137 ?_
    refine s_lsub (pc := 59) dX12_spelled_59 ?_
    refine s_goto (tgt := 65) (pc := 60) dX12_spelled_60 (by decide) ?_
    refine s_sub [2, 3] rfl ?_
    exact X12_spelled_j65_ok  v4 v5 (((k0 * (32 : Int64)) + v3.toInt64) - (96 : Int64))
def pX12_spelled (a0 : Int32) (a1 : Int32) (a2 : Int32) (a3 : Int32) (a4 : Int32) (a5 : Int32) : Option Int64 :=
  thn ((((a0.toInt64 - (96 : Int64)) * (32 : Int64)) + a1.toInt64) - (96 : Int64)) fun x1 =>
  if a2 ≤ 0 then
    X12_spelled_j41 a3 a4 a5 x1
  else
    X12_spelled_j41 a3 a4 a5 (((x1 * (32 : Int64)) + a2.toInt64) - (96 : Int64))
theorem pX12_spelled_w (a0 : Int32) (a1 : Int32) (a2 : Int32) (a3 : Int32) (a4 : Int32) (a5 : Int32) : aS l 0 MX12_spelled n0 S0 (oΦ (fun (x : Int64) => (some (.long x), h))) 0 [(0, .int a0), (1, .int a1), (2, .int a2), (3, .int a3), (4, .int a4), (5, .int a5)] [] h (pX12_spelled a0 a1 a2 a3 a4 a5) := by
  unfold pX12_spelled
  refine s_iload_n (pc := 0) 0 dX12_spelled_0 rfl ?_
  refine s_i2l (pc := 1) dX12_spelled_1 ?_
  refine s_ldc2 (v := 96) (pc := 2) dX12_spelled_2 wk_X12_137 ?_
  refine s_lsub (pc := 5) dX12_spelled_5 ?_
  refine s_ldc2 (v := 32) (pc := 6) dX12_spelled_6 wk_X12_135 ?_
  refine s_lmul (pc := 9) dX12_spelled_9 ?_
  refine s_iload_n (pc := 10) 1 dX12_spelled_10 rfl ?_
  refine s_i2l (pc := 11) dX12_spelled_11 ?_
  refine s_ladd (pc := 12) dX12_spelled_12 ?_
  refine s_ldc2 (v := 96) (pc := 13) dX12_spelled_13 wk_X12_137 ?_
  refine s_lsub (pc := 16) dX12_spelled_16 ?_
  refine s_lstoreT (lv' := fun x1 => [(6, .long x1), (0, .int a0), (1, .int a1), (2, .int a2), (3, .int a3), (4, .int a4), (5, .int a5)]) (pc := 17) dX12_spelled_17 (by decide) (fun _ => rfl) (fun x1 => ?_)
  refine s_iload_n (pc := 19) 3 dX12_spelled_19 rfl ?_
  refine s_if_le (tgt := 39) (pc := 20) dX12_spelled_20 (by decide) (fun _ => ?_) (fun _ => ?_)
  · refine s_lload (pc := 39) 0 dX12_spelled_39 rfl ?_
    refine s_sub [4, 5, 6] rfl ?_
    exact X12_spelled_j41_ok  a3 a4 a5 x1
  · refine s_lload (pc := 23) 0 dX12_spelled_23 rfl ?_
    refine s_ldc2 (v := 32) (pc := 25) dX12_spelled_25 wk_X12_135 ?_
    refine s_lmul (pc := 28) dX12_spelled_28 ?_
    refine s_iload_n (pc := 29) 3 dX12_spelled_29 rfl ?_
    refine s_i2l (pc := 30) dX12_spelled_30 ?_
    refine s_ladd (pc := 31) dX12_spelled_31 ?_
    refine s_ldc2 (v := 96) (pc := 32) dX12_spelled_32 wk_X12_137 ?_
    refine s_lsub (pc := 35) dX12_spelled_35 ?_
    refine s_goto (tgt := 41) (pc := 36) dX12_spelled_36 (by decide) ?_
    refine s_sub [4, 5, 6] rfl ?_
    exact X12_spelled_j41_ok  a3 a4 a5 (((x1 * (32 : Int64)) + a2.toInt64) - (96 : Int64))
theorem pX12_spelled_ok (a0 : Int32) (a1 : Int32) (a2 : Int32) (a3 : Int32) (a4 : Int32) (a5 : Int32) : ∀ x, pX12_spelled a0 a1 a2 a3 a4 a5 = some x → aMet l 0 yX12_spelled cX12_spelled 8 (some .long) [.int a0, .int a1, .int a2, .int a3, .int a4, .int a5] h (some (.long x)) h := fun x hx => a_meth (ini := false) (y := yX12_spelled) (by decide +kernel) (fun q => by cases q) (fun _ => Nat.le_of_ble_eq_true rfl) (pX12_spelled_w a0 a1 a2 a3 a4 a5) x hx _ _ ⟨rfl, rfl⟩
end
section
variable {l : Launch} {n0 S0 : Nat} {mo : Nat} {h : aH}
abbrev MX12_isWord : aM := (cX12_isWord, RX12, 3, (some .boolean), false)
def pX12_isWord (s : RS) (a0 : Int64) : Option Bool :=
  if (s.1 14) = (1 : Int32) then
    if (s.2.1 19) = a0 then
      some true
    else
      some false
  else
    some false
theorem pX12_isWord_w (hh : mo + 18 ≤ h.2.1) (s : RS) (a0 : Int64) : aS l 0 MX12_isWord n0 S0 (oΦ (fun (x : Bool) => (some (.int (b2i x)), rH mo h s))) 0 [(0, .ref mo), (1, .long a0)] [] (rH mo h s) (pX12_isWord s a0) := by
  unfold pX12_isWord
  refine s_aload_n (pc := 0) 0 dX12_isWord_0 rfl ?_
  refine rg_126 hh (pc := 1) dX12_isWord_1 rfl ?_
  refine s_iconst (v := 1) (pc := 4) dX12_isWord_4 (by decide) ?_
  refine s_icmp_ne (tgt := 21) (pc := 5) dX12_isWord_5 (by decide) (fun _ => ?_) (fun _ => ?_)
  · refine s_aload_n (pc := 8) 0 dX12_isWord_8 rfl ?_
    refine rg_132 hh (pc := 9) dX12_isWord_9 rfl ?_
    refine s_lload_n (pc := 12) 1 dX12_isWord_12 rfl ?_
    refine s_lcmp (pc := 13) dX12_isWord_13 ?_
    refine s_ifL (lg_cmp_z _ _) (s_if_ne (tgt := 21) (pc := 14) dX12_isWord_14 (by decide) (fun _ => ?_) (fun _ => ?_))
    · refine s_iconst (v := 1) (pc := 17) dX12_isWord_17 (by decide) ?_
      refine s_goto (tgt := 22) (pc := 18) dX12_isWord_18 (by decide) ?_
      exact s_zretB (b := true) (pc := 22) dX12_isWord_22 rfl (fun _ _ q => q)
    · refine s_iconst (v := 0) (pc := 21) dX12_isWord_21 (by decide) ?_
      exact s_zretB (b := false) (pc := 22) dX12_isWord_22 rfl (fun _ _ q => q)
  · refine s_iconst (v := 0) (pc := 21) dX12_isWord_21 (by decide) ?_
    exact s_zretB (b := false) (pc := 22) dX12_isWord_22 rfl (fun _ _ q => q)
theorem pX12_isWord_ok (hh : mo + 18 ≤ h.2.1) (s : RS) (a0 : Int64) : ∀ x, pX12_isWord s a0 = some x → aMet l 0 yX12_isWord cX12_isWord 3 (some .boolean) [.ref mo, .long a0] (rH mo h s) (some (.int (b2i x))) (rH mo h s) := fun x hx => a_meth (ini := false) (y := yX12_isWord) (by decide +kernel) (fun q => by cases q) (fun _ => Nat.le_of_ble_eq_true rfl) (pX12_isWord_w hh s a0) x hx _ _ ⟨rfl, rfl⟩
end
section
variable {l : Launch} {n0 S0 : Nat} {mo : Nat} {h : aH}
abbrev MX12_isIslandWord : aM := (cX12_isIslandWord, RX12, 1, (some .boolean), false)
def pX12_isIslandWord (s : RS) : Option Bool :=
  (pX12_spelled (105 : Int32) (115 : Int32) (108 : Int32) (97 : Int32) (110 : Int32) (100 : Int32)).bind fun x1 =>
  (pX12_isWord s x1).bind fun x2 =>
  some x2
theorem pX12_isIslandWord_w (hh : mo + 18 ≤ h.2.1) (s : RS) : aS l 1 MX12_isIslandWord n0 S0 (oΦ (fun (x : Bool) => (some (.int (b2i x)), rH mo h s))) 0 [(0, .ref mo)] [] (rH mo h s) (pX12_isIslandWord s) := by
  unfold pX12_isIslandWord
  refine s_aload_n (pc := 0) 0 dX12_isIslandWord_0 rfl ?_
  refine s_bipush (v := 105) (pc := 1) dX12_isIslandWord_1 (by decide) ?_
  refine s_bipush (v := 115) (pc := 3) dX12_isIslandWord_3 (by decide) ?_
  refine s_bipush (v := 108) (pc := 5) dX12_isIslandWord_5 (by decide) ?_
  refine s_bipush (v := 97) (pc := 7) dX12_isIslandWord_7 (by decide) ?_
  refine s_bipush (v := 110) (pc := 9) dX12_isIslandWord_9 (by decide) ?_
  refine s_bipush (v := 100) (pc := 11) dX12_isIslandWord_11 (by decide) ?_
  refine s_callS (M := MX12_isIslandWord) (As := [.int 105, .int 115, .int 108, .int 97, .int 110, .int 100]) (st := [.ref mo]) (Ψ := fun (x : Int64) => (some (.long x), rH mo h s)) cs_X12_148 (by decide) (pc := 13) dX12_isIslandWord_13 rfl (Nat.le_of_ble_eq_true rfl) (fun x hx => pX12_spelled_ok (105 : Int32) (115 : Int32) (108 : Int32) (97 : Int32) (110 : Int32) (100 : Int32) x hx) rfl (fun x1 _ => ?_)
  refine s_callV (M := MX12_isIslandWord) (As := [.long x1]) (st := []) (Ψ := fun (x : Bool) => (some (.int (b2i x)), rH mo h s)) cv_X12_152 (by decide) (pc := 16) dX12_isIslandWord_16 r_0 (r_lt (k := 0) hh (by decide)) rfl (Nat.le_of_ble_eq_true rfl) (fun x hx => pX12_isWord_ok hh s x1 x hx) rfl (fun x2 _ => ?_)
  exact s_zretB (b := x2) (pc := 19) dX12_isIslandWord_19 rfl (fun _ _ q => q)
theorem pX12_isIslandWord_ok (hh : mo + 18 ≤ h.2.1) (s : RS) : ∀ x, pX12_isIslandWord s = some x → aMet l 1 yX12_isIslandWord cX12_isIslandWord 1 (some .boolean) [.ref mo] (rH mo h s) (some (.int (b2i x))) (rH mo h s) := fun x hx => a_meth (ini := false) (y := yX12_isIslandWord) (by decide +kernel) (fun q => by cases q) (fun _ => Nat.le_of_ble_eq_true rfl) (pX12_isIslandWord_w hh s) x hx _ _ ⟨rfl, rfl⟩
end
section
variable {l : Launch} {n0 S0 : Nat} {mo : Nat} {h : aH}
abbrev MX12_kindWord : aM := (cX12_kindWord, RX12, 1, (some .int), false)
def pX12_kindWord (s : RS) : Option Int32 :=
  (pX12_spelled (112 : Int32) (117 : Int32) (116 : Int32) (0 : Int32) (0 : Int32) (0 : Int32)).bind fun x1 =>
  (pX12_isWord s x1).bind fun x2 =>
  if x2 = true then
    some (0 : Int32)
  else
    (pX12_spelled (116 : Int32) (97 : Int32) (107 : Int32) (101 : Int32) (0 : Int32) (0 : Int32)).bind fun x3 =>
    (pX12_isWord s x3).bind fun x4 =>
    if x4 = true then
      some (1 : Int32)
    else
      (pX12_spelled (110 : Int32) (97 : Int32) (109 : Int32) (101 : Int32) (0 : Int32) (0 : Int32)).bind fun x5 =>
      (pX12_isWord s x5).bind fun x6 =>
      if x6 = true then
        some (2 : Int32)
      else
        (pX12_spelled (109 : Int32) (111 : Int32) (118 : Int32) (101 : Int32) (0 : Int32) (0 : Int32)).bind fun x7 =>
        (pX12_isWord s x7).bind fun x8 =>
        if x8 = true then
          some (3 : Int32)
        else
          (pX12_spelled (115 : Int32) (101 : Int32) (116 : Int32) (116 : Int32) (108 : Int32) (101 : Int32)).bind fun x9 =>
          (pX12_isWord s x9).bind fun x10 =>
          if x10 = true then
            some (4 : Int32)
          else
            some (-1 : Int32)
theorem pX12_kindWord_w (hh : mo + 18 ≤ h.2.1) (s : RS) : aS l 1 MX12_kindWord n0 S0 (oΦ (fun (x : Int32) => (some (.int x), rH mo h s))) 0 [(0, .ref mo)] [] (rH mo h s) (pX12_kindWord s) := by
  unfold pX12_kindWord
  refine s_aload_n (pc := 0) 0 dX12_kindWord_0 rfl ?_
  refine s_bipush (v := 112) (pc := 1) dX12_kindWord_1 (by decide) ?_
  refine s_bipush (v := 117) (pc := 3) dX12_kindWord_3 (by decide) ?_
  refine s_bipush (v := 116) (pc := 5) dX12_kindWord_5 (by decide) ?_
  refine s_iconst (v := 0) (pc := 7) dX12_kindWord_7 (by decide) ?_
  refine s_iconst (v := 0) (pc := 8) dX12_kindWord_8 (by decide) ?_
  refine s_iconst (v := 0) (pc := 9) dX12_kindWord_9 (by decide) ?_
  refine s_callS (M := MX12_kindWord) (As := [.int 112, .int 117, .int 116, .int 0, .int 0, .int 0]) (st := [.ref mo]) (Ψ := fun (x : Int64) => (some (.long x), rH mo h s)) cs_X12_148 (by decide) (pc := 10) dX12_kindWord_10 rfl (Nat.le_of_ble_eq_true rfl) (fun x hx => pX12_spelled_ok (112 : Int32) (117 : Int32) (116 : Int32) (0 : Int32) (0 : Int32) (0 : Int32) x hx) rfl (fun x1 _ => ?_)
  refine s_callV (M := MX12_kindWord) (As := [.long x1]) (st := []) (Ψ := fun (x : Bool) => (some (.int (b2i x)), rH mo h s)) cv_X12_152 (by decide) (pc := 13) dX12_kindWord_13 r_0 (r_lt (k := 0) hh (by decide)) rfl (Nat.le_of_ble_eq_true rfl) (fun x hx => pX12_isWord_ok hh s x1 x hx) rfl (fun x2 _ => ?_)
  refine s_if_eqB (tgt := 21) (pc := 16) dX12_kindWord_16 (by decide) (fun _ => ?_) (fun _ => ?_)
  · refine s_iconst (v := 0) (pc := 19) dX12_kindWord_19 (by decide) ?_
    exact s_iret (pc := 20) dX12_kindWord_20 rfl (fun _ _ q => q)
  · refine s_aload_n (pc := 21) 0 dX12_kindWord_21 rfl ?_
    refine s_bipush (v := 116) (pc := 22) dX12_kindWord_22 (by decide) ?_
    refine s_bipush (v := 97) (pc := 24) dX12_kindWord_24 (by decide) ?_
    refine s_bipush (v := 107) (pc := 26) dX12_kindWord_26 (by decide) ?_
    refine s_bipush (v := 101) (pc := 28) dX12_kindWord_28 (by decide) ?_
    refine s_iconst (v := 0) (pc := 30) dX12_kindWord_30 (by decide) ?_
    refine s_iconst (v := 0) (pc := 31) dX12_kindWord_31 (by decide) ?_
    refine s_callS (M := MX12_kindWord) (As := [.int 116, .int 97, .int 107, .int 101, .int 0, .int 0]) (st := [.ref mo]) (Ψ := fun (x : Int64) => (some (.long x), rH mo h s)) cs_X12_148 (by decide) (pc := 32) dX12_kindWord_32 rfl (Nat.le_of_ble_eq_true rfl) (fun x hx => pX12_spelled_ok (116 : Int32) (97 : Int32) (107 : Int32) (101 : Int32) (0 : Int32) (0 : Int32) x hx) rfl (fun x3 _ => ?_)
    refine s_callV (M := MX12_kindWord) (As := [.long x3]) (st := []) (Ψ := fun (x : Bool) => (some (.int (b2i x)), rH mo h s)) cv_X12_152 (by decide) (pc := 35) dX12_kindWord_35 r_0 (r_lt (k := 0) hh (by decide)) rfl (Nat.le_of_ble_eq_true rfl) (fun x hx => pX12_isWord_ok hh s x3 x hx) rfl (fun x4 _ => ?_)
    refine s_if_eqB (tgt := 43) (pc := 38) dX12_kindWord_38 (by decide) (fun _ => ?_) (fun _ => ?_)
    · refine s_iconst (v := 1) (pc := 41) dX12_kindWord_41 (by decide) ?_
      exact s_iret (pc := 42) dX12_kindWord_42 rfl (fun _ _ q => q)
    · refine s_aload_n (pc := 43) 0 dX12_kindWord_43 rfl ?_
      refine s_bipush (v := 110) (pc := 44) dX12_kindWord_44 (by decide) ?_
      refine s_bipush (v := 97) (pc := 46) dX12_kindWord_46 (by decide) ?_
      refine s_bipush (v := 109) (pc := 48) dX12_kindWord_48 (by decide) ?_
      refine s_bipush (v := 101) (pc := 50) dX12_kindWord_50 (by decide) ?_
      refine s_iconst (v := 0) (pc := 52) dX12_kindWord_52 (by decide) ?_
      refine s_iconst (v := 0) (pc := 53) dX12_kindWord_53 (by decide) ?_
      refine s_callS (M := MX12_kindWord) (As := [.int 110, .int 97, .int 109, .int 101, .int 0, .int 0]) (st := [.ref mo]) (Ψ := fun (x : Int64) => (some (.long x), rH mo h s)) cs_X12_148 (by decide) (pc := 54) dX12_kindWord_54 rfl (Nat.le_of_ble_eq_true rfl) (fun x hx => pX12_spelled_ok (110 : Int32) (97 : Int32) (109 : Int32) (101 : Int32) (0 : Int32) (0 : Int32) x hx) rfl (fun x5 _ => ?_)
      refine s_callV (M := MX12_kindWord) (As := [.long x5]) (st := []) (Ψ := fun (x : Bool) => (some (.int (b2i x)), rH mo h s)) cv_X12_152 (by decide) (pc := 57) dX12_kindWord_57 r_0 (r_lt (k := 0) hh (by decide)) rfl (Nat.le_of_ble_eq_true rfl) (fun x hx => pX12_isWord_ok hh s x5 x hx) rfl (fun x6 _ => ?_)
      refine s_if_eqB (tgt := 65) (pc := 60) dX12_kindWord_60 (by decide) (fun _ => ?_) (fun _ => ?_)
      · refine s_iconst (v := 2) (pc := 63) dX12_kindWord_63 (by decide) ?_
        exact s_iret (pc := 64) dX12_kindWord_64 rfl (fun _ _ q => q)
      · refine s_aload_n (pc := 65) 0 dX12_kindWord_65 rfl ?_
        refine s_bipush (v := 109) (pc := 66) dX12_kindWord_66 (by decide) ?_
        refine s_bipush (v := 111) (pc := 68) dX12_kindWord_68 (by decide) ?_
        refine s_bipush (v := 118) (pc := 70) dX12_kindWord_70 (by decide) ?_
        refine s_bipush (v := 101) (pc := 72) dX12_kindWord_72 (by decide) ?_
        refine s_iconst (v := 0) (pc := 74) dX12_kindWord_74 (by decide) ?_
        refine s_iconst (v := 0) (pc := 75) dX12_kindWord_75 (by decide) ?_
        refine s_callS (M := MX12_kindWord) (As := [.int 109, .int 111, .int 118, .int 101, .int 0, .int 0]) (st := [.ref mo]) (Ψ := fun (x : Int64) => (some (.long x), rH mo h s)) cs_X12_148 (by decide) (pc := 76) dX12_kindWord_76 rfl (Nat.le_of_ble_eq_true rfl) (fun x hx => pX12_spelled_ok (109 : Int32) (111 : Int32) (118 : Int32) (101 : Int32) (0 : Int32) (0 : Int32) x hx) rfl (fun x7 _ => ?_)
        refine s_callV (M := MX12_kindWord) (As := [.long x7]) (st := []) (Ψ := fun (x : Bool) => (some (.int (b2i x)), rH mo h s)) cv_X12_152 (by decide) (pc := 79) dX12_kindWord_79 r_0 (r_lt (k := 0) hh (by decide)) rfl (Nat.le_of_ble_eq_true rfl) (fun x hx => pX12_isWord_ok hh s x7 x hx) rfl (fun x8 _ => ?_)
        refine s_if_eqB (tgt := 87) (pc := 82) dX12_kindWord_82 (by decide) (fun _ => ?_) (fun _ => ?_)
        · refine s_iconst (v := 3) (pc := 85) dX12_kindWord_85 (by decide) ?_
          exact s_iret (pc := 86) dX12_kindWord_86 rfl (fun _ _ q => q)
        · refine s_aload_n (pc := 87) 0 dX12_kindWord_87 rfl ?_
          refine s_bipush (v := 115) (pc := 88) dX12_kindWord_88 (by decide) ?_
          refine s_bipush (v := 101) (pc := 90) dX12_kindWord_90 (by decide) ?_
          refine s_bipush (v := 116) (pc := 92) dX12_kindWord_92 (by decide) ?_
          refine s_bipush (v := 116) (pc := 94) dX12_kindWord_94 (by decide) ?_
          refine s_bipush (v := 108) (pc := 96) dX12_kindWord_96 (by decide) ?_
          refine s_bipush (v := 101) (pc := 98) dX12_kindWord_98 (by decide) ?_
          refine s_callS (M := MX12_kindWord) (As := [.int 115, .int 101, .int 116, .int 116, .int 108, .int 101]) (st := [.ref mo]) (Ψ := fun (x : Int64) => (some (.long x), rH mo h s)) cs_X12_148 (by decide) (pc := 100) dX12_kindWord_100 rfl (Nat.le_of_ble_eq_true rfl) (fun x hx => pX12_spelled_ok (115 : Int32) (101 : Int32) (116 : Int32) (116 : Int32) (108 : Int32) (101 : Int32) x hx) rfl (fun x9 _ => ?_)
          refine s_callV (M := MX12_kindWord) (As := [.long x9]) (st := []) (Ψ := fun (x : Bool) => (some (.int (b2i x)), rH mo h s)) cv_X12_152 (by decide) (pc := 103) dX12_kindWord_103 r_0 (r_lt (k := 0) hh (by decide)) rfl (Nat.le_of_ble_eq_true rfl) (fun x hx => pX12_isWord_ok hh s x9 x hx) rfl (fun x10 _ => ?_)
          refine s_if_eqB (tgt := 113) (pc := 106) dX12_kindWord_106 (by decide) (fun _ => ?_) (fun _ => ?_)
          · refine s_iconst (v := 4) (pc := 109) dX12_kindWord_109 (by decide) ?_
            refine s_goto (tgt := 114) (pc := 110) dX12_kindWord_110 (by decide) ?_
            exact s_iret (pc := 114) dX12_kindWord_114 rfl (fun _ _ q => q)
          · refine s_iconst (v := (-1)) (pc := 113) dX12_kindWord_113 (by decide) ?_
            exact s_iret (pc := 114) dX12_kindWord_114 rfl (fun _ _ q => q)
theorem pX12_kindWord_ok (hh : mo + 18 ≤ h.2.1) (s : RS) : ∀ x, pX12_kindWord s = some x → aMet l 1 yX12_kindWord cX12_kindWord 1 (some .int) [.ref mo] (rH mo h s) (some (.int x)) (rH mo h s) := fun x hx => a_meth (ini := false) (y := yX12_kindWord) (by decide +kernel) (fun q => by cases q) (fun _ => Nat.le_of_ble_eq_true rfl) (pX12_kindWord_w hh s) x hx _ _ ⟨rfl, rfl⟩
end
section
variable {l : Launch} {n0 S0 : Nat} {mo : Nat} {h : aH}
abbrev MX12_isKey : aM := (cX12_isKey, RX12, 1, (some .boolean), false)
def pX12_isKey (s : RS) : Option Bool :=
  (pX12_spelled (107 : Int32) (101 : Int32) (121 : Int32) (0 : Int32) (0 : Int32) (0 : Int32)).bind fun x1 =>
  (pX12_isWord s x1).bind fun x2 =>
  some x2
theorem pX12_isKey_w (hh : mo + 18 ≤ h.2.1) (s : RS) : aS l 1 MX12_isKey n0 S0 (oΦ (fun (x : Bool) => (some (.int (b2i x)), rH mo h s))) 0 [(0, .ref mo)] [] (rH mo h s) (pX12_isKey s) := by
  unfold pX12_isKey
  refine s_aload_n (pc := 0) 0 dX12_isKey_0 rfl ?_
  refine s_bipush (v := 107) (pc := 1) dX12_isKey_1 (by decide) ?_
  refine s_bipush (v := 101) (pc := 3) dX12_isKey_3 (by decide) ?_
  refine s_bipush (v := 121) (pc := 5) dX12_isKey_5 (by decide) ?_
  refine s_iconst (v := 0) (pc := 7) dX12_isKey_7 (by decide) ?_
  refine s_iconst (v := 0) (pc := 8) dX12_isKey_8 (by decide) ?_
  refine s_iconst (v := 0) (pc := 9) dX12_isKey_9 (by decide) ?_
  refine s_callS (M := MX12_isKey) (As := [.int 107, .int 101, .int 121, .int 0, .int 0, .int 0]) (st := [.ref mo]) (Ψ := fun (x : Int64) => (some (.long x), rH mo h s)) cs_X12_148 (by decide) (pc := 10) dX12_isKey_10 rfl (Nat.le_of_ble_eq_true rfl) (fun x hx => pX12_spelled_ok (107 : Int32) (101 : Int32) (121 : Int32) (0 : Int32) (0 : Int32) (0 : Int32) x hx) rfl (fun x1 _ => ?_)
  refine s_callV (M := MX12_isKey) (As := [.long x1]) (st := []) (Ψ := fun (x : Bool) => (some (.int (b2i x)), rH mo h s)) cv_X12_152 (by decide) (pc := 13) dX12_isKey_13 r_0 (r_lt (k := 0) hh (by decide)) rfl (Nat.le_of_ble_eq_true rfl) (fun x hx => pX12_isWord_ok hh s x1 x hx) rfl (fun x2 _ => ?_)
  exact s_zretB (b := x2) (pc := 16) dX12_isKey_16 rfl (fun _ _ q => q)
theorem pX12_isKey_ok (hh : mo + 18 ≤ h.2.1) (s : RS) : ∀ x, pX12_isKey s = some x → aMet l 1 yX12_isKey cX12_isKey 1 (some .boolean) [.ref mo] (rH mo h s) (some (.int (b2i x))) (rH mo h s) := fun x hx => a_meth (ini := false) (y := yX12_isKey) (by decide +kernel) (fun q => by cases q) (fun _ => Nat.le_of_ble_eq_true rfl) (pX12_isKey_w hh s) x hx _ _ ⟨rfl, rfl⟩
end
section
variable {l : Launch} {n0 S0 : Nat} {mo : Nat} {h : aH}
abbrev MX12_isSays : aM := (cX12_isSays, RX12, 1, (some .boolean), false)
def pX12_isSays (s : RS) : Option Bool :=
  (pX12_spelled (115 : Int32) (97 : Int32) (121 : Int32) (115 : Int32) (0 : Int32) (0 : Int32)).bind fun x1 =>
  (pX12_isWord s x1).bind fun x2 =>
  some x2
theorem pX12_isSays_w (hh : mo + 18 ≤ h.2.1) (s : RS) : aS l 1 MX12_isSays n0 S0 (oΦ (fun (x : Bool) => (some (.int (b2i x)), rH mo h s))) 0 [(0, .ref mo)] [] (rH mo h s) (pX12_isSays s) := by
  unfold pX12_isSays
  refine s_aload_n (pc := 0) 0 dX12_isSays_0 rfl ?_
  refine s_bipush (v := 115) (pc := 1) dX12_isSays_1 (by decide) ?_
  refine s_bipush (v := 97) (pc := 3) dX12_isSays_3 (by decide) ?_
  refine s_bipush (v := 121) (pc := 5) dX12_isSays_5 (by decide) ?_
  refine s_bipush (v := 115) (pc := 7) dX12_isSays_7 (by decide) ?_
  refine s_iconst (v := 0) (pc := 9) dX12_isSays_9 (by decide) ?_
  refine s_iconst (v := 0) (pc := 10) dX12_isSays_10 (by decide) ?_
  refine s_callS (M := MX12_isSays) (As := [.int 115, .int 97, .int 121, .int 115, .int 0, .int 0]) (st := [.ref mo]) (Ψ := fun (x : Int64) => (some (.long x), rH mo h s)) cs_X12_148 (by decide) (pc := 11) dX12_isSays_11 rfl (Nat.le_of_ble_eq_true rfl) (fun x hx => pX12_spelled_ok (115 : Int32) (97 : Int32) (121 : Int32) (115 : Int32) (0 : Int32) (0 : Int32) x hx) rfl (fun x1 _ => ?_)
  refine s_callV (M := MX12_isSays) (As := [.long x1]) (st := []) (Ψ := fun (x : Bool) => (some (.int (b2i x)), rH mo h s)) cv_X12_152 (by decide) (pc := 14) dX12_isSays_14 r_0 (r_lt (k := 0) hh (by decide)) rfl (Nat.le_of_ble_eq_true rfl) (fun x hx => pX12_isWord_ok hh s x1 x hx) rfl (fun x2 _ => ?_)
  exact s_zretB (b := x2) (pc := 17) dX12_isSays_17 rfl (fun _ _ q => q)
theorem pX12_isSays_ok (hh : mo + 18 ≤ h.2.1) (s : RS) : ∀ x, pX12_isSays s = some x → aMet l 1 yX12_isSays cX12_isSays 1 (some .boolean) [.ref mo] (rH mo h s) (some (.int (b2i x))) (rH mo h s) := fun x hx => a_meth (ini := false) (y := yX12_isSays) (by decide +kernel) (fun q => by cases q) (fun _ => Nat.le_of_ble_eq_true rfl) (pX12_isSays_w hh s) x hx _ _ ⟨rfl, rfl⟩
end
section
variable {l : Launch} {n0 S0 : Nat} {mo : Nat} {h : aH}
abbrev MX12_isOf : aM := (cX12_isOf, RX12, 1, (some .boolean), false)
def pX12_isOf (s : RS) : Option Bool :=
  (pX12_spelled (111 : Int32) (102 : Int32) (0 : Int32) (0 : Int32) (0 : Int32) (0 : Int32)).bind fun x1 =>
  (pX12_isWord s x1).bind fun x2 =>
  some x2
theorem pX12_isOf_w (hh : mo + 18 ≤ h.2.1) (s : RS) : aS l 1 MX12_isOf n0 S0 (oΦ (fun (x : Bool) => (some (.int (b2i x)), rH mo h s))) 0 [(0, .ref mo)] [] (rH mo h s) (pX12_isOf s) := by
  unfold pX12_isOf
  refine s_aload_n (pc := 0) 0 dX12_isOf_0 rfl ?_
  refine s_bipush (v := 111) (pc := 1) dX12_isOf_1 (by decide) ?_
  refine s_bipush (v := 102) (pc := 3) dX12_isOf_3 (by decide) ?_
  refine s_iconst (v := 0) (pc := 5) dX12_isOf_5 (by decide) ?_
  refine s_iconst (v := 0) (pc := 6) dX12_isOf_6 (by decide) ?_
  refine s_iconst (v := 0) (pc := 7) dX12_isOf_7 (by decide) ?_
  refine s_iconst (v := 0) (pc := 8) dX12_isOf_8 (by decide) ?_
  refine s_callS (M := MX12_isOf) (As := [.int 111, .int 102, .int 0, .int 0, .int 0, .int 0]) (st := [.ref mo]) (Ψ := fun (x : Int64) => (some (.long x), rH mo h s)) cs_X12_148 (by decide) (pc := 9) dX12_isOf_9 rfl (Nat.le_of_ble_eq_true rfl) (fun x hx => pX12_spelled_ok (111 : Int32) (102 : Int32) (0 : Int32) (0 : Int32) (0 : Int32) (0 : Int32) x hx) rfl (fun x1 _ => ?_)
  refine s_callV (M := MX12_isOf) (As := [.long x1]) (st := []) (Ψ := fun (x : Bool) => (some (.int (b2i x)), rH mo h s)) cv_X12_152 (by decide) (pc := 12) dX12_isOf_12 r_0 (r_lt (k := 0) hh (by decide)) rfl (Nat.le_of_ble_eq_true rfl) (fun x hx => pX12_isWord_ok hh s x1 x hx) rfl (fun x2 _ => ?_)
  exact s_zretB (b := x2) (pc := 15) dX12_isOf_15 rfl (fun _ _ q => q)
theorem pX12_isOf_ok (hh : mo + 18 ≤ h.2.1) (s : RS) : ∀ x, pX12_isOf s = some x → aMet l 1 yX12_isOf cX12_isOf 1 (some .boolean) [.ref mo] (rH mo h s) (some (.int (b2i x))) (rH mo h s) := fun x hx => a_meth (ini := false) (y := yX12_isOf) (by decide +kernel) (fun q => by cases q) (fun _ => Nat.le_of_ble_eq_true rfl) (pX12_isOf_w hh s) x hx _ _ ⟨rfl, rfl⟩
end
section
variable {l : Launch} {n0 S0 : Nat} {mo : Nat} {h : aH}
abbrev MX12_isNot : aM := (cX12_isNot, RX12, 1, (some .boolean), false)
def pX12_isNot (s : RS) : Option Bool :=
  (pX12_spelled (110 : Int32) (111 : Int32) (116 : Int32) (0 : Int32) (0 : Int32) (0 : Int32)).bind fun x1 =>
  (pX12_isWord s x1).bind fun x2 =>
  some x2
theorem pX12_isNot_w (hh : mo + 18 ≤ h.2.1) (s : RS) : aS l 1 MX12_isNot n0 S0 (oΦ (fun (x : Bool) => (some (.int (b2i x)), rH mo h s))) 0 [(0, .ref mo)] [] (rH mo h s) (pX12_isNot s) := by
  unfold pX12_isNot
  refine s_aload_n (pc := 0) 0 dX12_isNot_0 rfl ?_
  refine s_bipush (v := 110) (pc := 1) dX12_isNot_1 (by decide) ?_
  refine s_bipush (v := 111) (pc := 3) dX12_isNot_3 (by decide) ?_
  refine s_bipush (v := 116) (pc := 5) dX12_isNot_5 (by decide) ?_
  refine s_iconst (v := 0) (pc := 7) dX12_isNot_7 (by decide) ?_
  refine s_iconst (v := 0) (pc := 8) dX12_isNot_8 (by decide) ?_
  refine s_iconst (v := 0) (pc := 9) dX12_isNot_9 (by decide) ?_
  refine s_callS (M := MX12_isNot) (As := [.int 110, .int 111, .int 116, .int 0, .int 0, .int 0]) (st := [.ref mo]) (Ψ := fun (x : Int64) => (some (.long x), rH mo h s)) cs_X12_148 (by decide) (pc := 10) dX12_isNot_10 rfl (Nat.le_of_ble_eq_true rfl) (fun x hx => pX12_spelled_ok (110 : Int32) (111 : Int32) (116 : Int32) (0 : Int32) (0 : Int32) (0 : Int32) x hx) rfl (fun x1 _ => ?_)
  refine s_callV (M := MX12_isNot) (As := [.long x1]) (st := []) (Ψ := fun (x : Bool) => (some (.int (b2i x)), rH mo h s)) cv_X12_152 (by decide) (pc := 13) dX12_isNot_13 r_0 (r_lt (k := 0) hh (by decide)) rfl (Nat.le_of_ble_eq_true rfl) (fun x hx => pX12_isWord_ok hh s x1 x hx) rfl (fun x2 _ => ?_)
  exact s_zretB (b := x2) (pc := 16) dX12_isNot_16 rfl (fun _ _ q => q)
theorem pX12_isNot_ok (hh : mo + 18 ≤ h.2.1) (s : RS) : ∀ x, pX12_isNot s = some x → aMet l 1 yX12_isNot cX12_isNot 1 (some .boolean) [.ref mo] (rH mo h s) (some (.int (b2i x))) (rH mo h s) := fun x hx => a_meth (ini := false) (y := yX12_isNot) (by decide +kernel) (fun q => by cases q) (fun _ => Nat.le_of_ble_eq_true rfl) (pX12_isNot_w hh s) x hx _ _ ⟨rfl, rfl⟩
end
section
variable {l : Launch} {n0 S0 : Nat} {mo : Nat} {h : aH}
abbrev MX12_isAfter : aM := (cX12_isAfter, RX12, 1, (some .boolean), false)
def pX12_isAfter (s : RS) : Option Bool :=
  (pX12_spelled (97 : Int32) (102 : Int32) (116 : Int32) (101 : Int32) (114 : Int32) (0 : Int32)).bind fun x1 =>
  (pX12_isWord s x1).bind fun x2 =>
  some x2
theorem pX12_isAfter_w (hh : mo + 18 ≤ h.2.1) (s : RS) : aS l 1 MX12_isAfter n0 S0 (oΦ (fun (x : Bool) => (some (.int (b2i x)), rH mo h s))) 0 [(0, .ref mo)] [] (rH mo h s) (pX12_isAfter s) := by
  unfold pX12_isAfter
  refine s_aload_n (pc := 0) 0 dX12_isAfter_0 rfl ?_
  refine s_bipush (v := 97) (pc := 1) dX12_isAfter_1 (by decide) ?_
  refine s_bipush (v := 102) (pc := 3) dX12_isAfter_3 (by decide) ?_
  refine s_bipush (v := 116) (pc := 5) dX12_isAfter_5 (by decide) ?_
  refine s_bipush (v := 101) (pc := 7) dX12_isAfter_7 (by decide) ?_
  refine s_bipush (v := 114) (pc := 9) dX12_isAfter_9 (by decide) ?_
  refine s_iconst (v := 0) (pc := 11) dX12_isAfter_11 (by decide) ?_
  refine s_callS (M := MX12_isAfter) (As := [.int 97, .int 102, .int 116, .int 101, .int 114, .int 0]) (st := [.ref mo]) (Ψ := fun (x : Int64) => (some (.long x), rH mo h s)) cs_X12_148 (by decide) (pc := 12) dX12_isAfter_12 rfl (Nat.le_of_ble_eq_true rfl) (fun x hx => pX12_spelled_ok (97 : Int32) (102 : Int32) (116 : Int32) (101 : Int32) (114 : Int32) (0 : Int32) x hx) rfl (fun x1 _ => ?_)
  refine s_callV (M := MX12_isAfter) (As := [.long x1]) (st := []) (Ψ := fun (x : Bool) => (some (.int (b2i x)), rH mo h s)) cv_X12_152 (by decide) (pc := 15) dX12_isAfter_15 r_0 (r_lt (k := 0) hh (by decide)) rfl (Nat.le_of_ble_eq_true rfl) (fun x hx => pX12_isWord_ok hh s x1 x hx) rfl (fun x2 _ => ?_)
  exact s_zretB (b := x2) (pc := 18) dX12_isAfter_18 rfl (fun _ _ q => q)
theorem pX12_isAfter_ok (hh : mo + 18 ≤ h.2.1) (s : RS) : ∀ x, pX12_isAfter s = some x → aMet l 1 yX12_isAfter cX12_isAfter 1 (some .boolean) [.ref mo] (rH mo h s) (some (.int (b2i x))) (rH mo h s) := fun x hx => a_meth (ini := false) (y := yX12_isAfter) (by decide +kernel) (fun q => by cases q) (fun _ => Nat.le_of_ble_eq_true rfl) (pX12_isAfter_w hh s) x hx _ _ ⟨rfl, rfl⟩
end
section
variable {l : Launch} {n0 S0 : Nat} {mo : Nat} {h : aH}
abbrev MX12_stepWord : aM := (cX12_stepWord, RX12, 1, (some .int), false)
def pX12_stepWord (s : RS) : Option Int32 :=
  (pX12_spelled (109 : Int32) (97 : Int32) (107 : Int32) (101 : Int32) (0 : Int32) (0 : Int32)).bind fun x1 =>
  (pX12_isWord s x1).bind fun x2 =>
  if x2 = true then
    some (0 : Int32)
  else
    (pX12_spelled (115 : Int32) (104 : Int32) (105 : Int32) (112 : Int32) (0 : Int32) (0 : Int32)).bind fun x3 =>
    (pX12_isWord s x3).bind fun x4 =>
    if x4 = true then
      some (1 : Int32)
    else
      (pX12_spelled (111 : Int32) (117 : Int32) (116 : Int32) (0 : Int32) (0 : Int32) (0 : Int32)).bind fun x5 =>
      (pX12_isWord s x5).bind fun x6 =>
      if x6 = true then
        some (2 : Int32)
      else
        (pX12_spelled (112 : Int32) (105 : Int32) (99 : Int32) (107 : Int32) (0 : Int32) (0 : Int32)).bind fun x7 =>
        (pX12_isWord s x7).bind fun x8 =>
        if x8 = true then
          some (3 : Int32)
        else
          (pX12_spelled (119 : Int32) (97 : Int32) (105 : Int32) (116 : Int32) (0 : Int32) (0 : Int32)).bind fun x9 =>
          (pX12_isWord s x9).bind fun x10 =>
          if x10 = true then
            some (4 : Int32)
          else
            (pX12_spelled (100 : Int32) (114 : Int32) (97 : Int32) (119 : Int32) (0 : Int32) (0 : Int32)).bind fun x11 =>
            (pX12_isWord s x11).bind fun x12 =>
            if x12 = true then
              some (5 : Int32)
            else
              (pX12_spelled (119 : Int32) (104 : Int32) (101 : Int32) (110 : Int32) (0 : Int32) (0 : Int32)).bind fun x13 =>
              (pX12_isWord s x13).bind fun x14 =>
              if x14 = true then
                some (6 : Int32)
              else
                (pX12_spelled (108 : Int32) (111 : Int32) (111 : Int32) (112 : Int32) (0 : Int32) (0 : Int32)).bind fun x15 =>
                (pX12_isWord s x15).bind fun x16 =>
                if x16 = true then
                  some (7 : Int32)
                else
                  (pX12_spelled (115 : Int32) (116 : Int32) (111 : Int32) (112 : Int32) (0 : Int32) (0 : Int32)).bind fun x17 =>
                  (pX12_isWord s x17).bind fun x18 =>
                  if x18 = true then
                    some (8 : Int32)
                  else
                    some (-1 : Int32)
theorem pX12_stepWord_w (hh : mo + 18 ≤ h.2.1) (s : RS) : aS l 1 MX12_stepWord n0 S0 (oΦ (fun (x : Int32) => (some (.int x), rH mo h s))) 0 [(0, .ref mo)] [] (rH mo h s) (pX12_stepWord s) := by
  unfold pX12_stepWord
  refine s_aload_n (pc := 0) 0 dX12_stepWord_0 rfl ?_
  refine s_bipush (v := 109) (pc := 1) dX12_stepWord_1 (by decide) ?_
  refine s_bipush (v := 97) (pc := 3) dX12_stepWord_3 (by decide) ?_
  refine s_bipush (v := 107) (pc := 5) dX12_stepWord_5 (by decide) ?_
  refine s_bipush (v := 101) (pc := 7) dX12_stepWord_7 (by decide) ?_
  refine s_iconst (v := 0) (pc := 9) dX12_stepWord_9 (by decide) ?_
  refine s_iconst (v := 0) (pc := 10) dX12_stepWord_10 (by decide) ?_
  refine s_callS (M := MX12_stepWord) (As := [.int 109, .int 97, .int 107, .int 101, .int 0, .int 0]) (st := [.ref mo]) (Ψ := fun (x : Int64) => (some (.long x), rH mo h s)) cs_X12_148 (by decide) (pc := 11) dX12_stepWord_11 rfl (Nat.le_of_ble_eq_true rfl) (fun x hx => pX12_spelled_ok (109 : Int32) (97 : Int32) (107 : Int32) (101 : Int32) (0 : Int32) (0 : Int32) x hx) rfl (fun x1 _ => ?_)
  refine s_callV (M := MX12_stepWord) (As := [.long x1]) (st := []) (Ψ := fun (x : Bool) => (some (.int (b2i x)), rH mo h s)) cv_X12_152 (by decide) (pc := 14) dX12_stepWord_14 r_0 (r_lt (k := 0) hh (by decide)) rfl (Nat.le_of_ble_eq_true rfl) (fun x hx => pX12_isWord_ok hh s x1 x hx) rfl (fun x2 _ => ?_)
  refine s_if_eqB (tgt := 22) (pc := 17) dX12_stepWord_17 (by decide) (fun _ => ?_) (fun _ => ?_)
  · refine s_iconst (v := 0) (pc := 20) dX12_stepWord_20 (by decide) ?_
    exact s_iret (pc := 21) dX12_stepWord_21 rfl (fun _ _ q => q)
  · refine s_aload_n (pc := 22) 0 dX12_stepWord_22 rfl ?_
    refine s_bipush (v := 115) (pc := 23) dX12_stepWord_23 (by decide) ?_
    refine s_bipush (v := 104) (pc := 25) dX12_stepWord_25 (by decide) ?_
    refine s_bipush (v := 105) (pc := 27) dX12_stepWord_27 (by decide) ?_
    refine s_bipush (v := 112) (pc := 29) dX12_stepWord_29 (by decide) ?_
    refine s_iconst (v := 0) (pc := 31) dX12_stepWord_31 (by decide) ?_
    refine s_iconst (v := 0) (pc := 32) dX12_stepWord_32 (by decide) ?_
    refine s_callS (M := MX12_stepWord) (As := [.int 115, .int 104, .int 105, .int 112, .int 0, .int 0]) (st := [.ref mo]) (Ψ := fun (x : Int64) => (some (.long x), rH mo h s)) cs_X12_148 (by decide) (pc := 33) dX12_stepWord_33 rfl (Nat.le_of_ble_eq_true rfl) (fun x hx => pX12_spelled_ok (115 : Int32) (104 : Int32) (105 : Int32) (112 : Int32) (0 : Int32) (0 : Int32) x hx) rfl (fun x3 _ => ?_)
    refine s_callV (M := MX12_stepWord) (As := [.long x3]) (st := []) (Ψ := fun (x : Bool) => (some (.int (b2i x)), rH mo h s)) cv_X12_152 (by decide) (pc := 36) dX12_stepWord_36 r_0 (r_lt (k := 0) hh (by decide)) rfl (Nat.le_of_ble_eq_true rfl) (fun x hx => pX12_isWord_ok hh s x3 x hx) rfl (fun x4 _ => ?_)
    refine s_if_eqB (tgt := 44) (pc := 39) dX12_stepWord_39 (by decide) (fun _ => ?_) (fun _ => ?_)
    · refine s_iconst (v := 1) (pc := 42) dX12_stepWord_42 (by decide) ?_
      exact s_iret (pc := 43) dX12_stepWord_43 rfl (fun _ _ q => q)
    · refine s_aload_n (pc := 44) 0 dX12_stepWord_44 rfl ?_
      refine s_bipush (v := 111) (pc := 45) dX12_stepWord_45 (by decide) ?_
      refine s_bipush (v := 117) (pc := 47) dX12_stepWord_47 (by decide) ?_
      refine s_bipush (v := 116) (pc := 49) dX12_stepWord_49 (by decide) ?_
      refine s_iconst (v := 0) (pc := 51) dX12_stepWord_51 (by decide) ?_
      refine s_iconst (v := 0) (pc := 52) dX12_stepWord_52 (by decide) ?_
      refine s_iconst (v := 0) (pc := 53) dX12_stepWord_53 (by decide) ?_
      refine s_callS (M := MX12_stepWord) (As := [.int 111, .int 117, .int 116, .int 0, .int 0, .int 0]) (st := [.ref mo]) (Ψ := fun (x : Int64) => (some (.long x), rH mo h s)) cs_X12_148 (by decide) (pc := 54) dX12_stepWord_54 rfl (Nat.le_of_ble_eq_true rfl) (fun x hx => pX12_spelled_ok (111 : Int32) (117 : Int32) (116 : Int32) (0 : Int32) (0 : Int32) (0 : Int32) x hx) rfl (fun x5 _ => ?_)
      refine s_callV (M := MX12_stepWord) (As := [.long x5]) (st := []) (Ψ := fun (x : Bool) => (some (.int (b2i x)), rH mo h s)) cv_X12_152 (by decide) (pc := 57) dX12_stepWord_57 r_0 (r_lt (k := 0) hh (by decide)) rfl (Nat.le_of_ble_eq_true rfl) (fun x hx => pX12_isWord_ok hh s x5 x hx) rfl (fun x6 _ => ?_)
      refine s_if_eqB (tgt := 65) (pc := 60) dX12_stepWord_60 (by decide) (fun _ => ?_) (fun _ => ?_)
      · refine s_iconst (v := 2) (pc := 63) dX12_stepWord_63 (by decide) ?_
        exact s_iret (pc := 64) dX12_stepWord_64 rfl (fun _ _ q => q)
      · refine s_aload_n (pc := 65) 0 dX12_stepWord_65 rfl ?_
        refine s_bipush (v := 112) (pc := 66) dX12_stepWord_66 (by decide) ?_
        refine s_bipush (v := 105) (pc := 68) dX12_stepWord_68 (by decide) ?_
        refine s_bipush (v := 99) (pc := 70) dX12_stepWord_70 (by decide) ?_
        refine s_bipush (v := 107) (pc := 72) dX12_stepWord_72 (by decide) ?_
        refine s_iconst (v := 0) (pc := 74) dX12_stepWord_74 (by decide) ?_
        refine s_iconst (v := 0) (pc := 75) dX12_stepWord_75 (by decide) ?_
        refine s_callS (M := MX12_stepWord) (As := [.int 112, .int 105, .int 99, .int 107, .int 0, .int 0]) (st := [.ref mo]) (Ψ := fun (x : Int64) => (some (.long x), rH mo h s)) cs_X12_148 (by decide) (pc := 76) dX12_stepWord_76 rfl (Nat.le_of_ble_eq_true rfl) (fun x hx => pX12_spelled_ok (112 : Int32) (105 : Int32) (99 : Int32) (107 : Int32) (0 : Int32) (0 : Int32) x hx) rfl (fun x7 _ => ?_)
        refine s_callV (M := MX12_stepWord) (As := [.long x7]) (st := []) (Ψ := fun (x : Bool) => (some (.int (b2i x)), rH mo h s)) cv_X12_152 (by decide) (pc := 79) dX12_stepWord_79 r_0 (r_lt (k := 0) hh (by decide)) rfl (Nat.le_of_ble_eq_true rfl) (fun x hx => pX12_isWord_ok hh s x7 x hx) rfl (fun x8 _ => ?_)
        refine s_if_eqB (tgt := 87) (pc := 82) dX12_stepWord_82 (by decide) (fun _ => ?_) (fun _ => ?_)
        · refine s_iconst (v := 3) (pc := 85) dX12_stepWord_85 (by decide) ?_
          exact s_iret (pc := 86) dX12_stepWord_86 rfl (fun _ _ q => q)
        · refine s_aload_n (pc := 87) 0 dX12_stepWord_87 rfl ?_
          refine s_bipush (v := 119) (pc := 88) dX12_stepWord_88 (by decide) ?_
          refine s_bipush (v := 97) (pc := 90) dX12_stepWord_90 (by decide) ?_
          refine s_bipush (v := 105) (pc := 92) dX12_stepWord_92 (by decide) ?_
          refine s_bipush (v := 116) (pc := 94) dX12_stepWord_94 (by decide) ?_
          refine s_iconst (v := 0) (pc := 96) dX12_stepWord_96 (by decide) ?_
          refine s_iconst (v := 0) (pc := 97) dX12_stepWord_97 (by decide) ?_
          refine s_callS (M := MX12_stepWord) (As := [.int 119, .int 97, .int 105, .int 116, .int 0, .int 0]) (st := [.ref mo]) (Ψ := fun (x : Int64) => (some (.long x), rH mo h s)) cs_X12_148 (by decide) (pc := 98) dX12_stepWord_98 rfl (Nat.le_of_ble_eq_true rfl) (fun x hx => pX12_spelled_ok (119 : Int32) (97 : Int32) (105 : Int32) (116 : Int32) (0 : Int32) (0 : Int32) x hx) rfl (fun x9 _ => ?_)
          refine s_callV (M := MX12_stepWord) (As := [.long x9]) (st := []) (Ψ := fun (x : Bool) => (some (.int (b2i x)), rH mo h s)) cv_X12_152 (by decide) (pc := 101) dX12_stepWord_101 r_0 (r_lt (k := 0) hh (by decide)) rfl (Nat.le_of_ble_eq_true rfl) (fun x hx => pX12_isWord_ok hh s x9 x hx) rfl (fun x10 _ => ?_)
          refine s_if_eqB (tgt := 109) (pc := 104) dX12_stepWord_104 (by decide) (fun _ => ?_) (fun _ => ?_)
          · refine s_iconst (v := 4) (pc := 107) dX12_stepWord_107 (by decide) ?_
            exact s_iret (pc := 108) dX12_stepWord_108 rfl (fun _ _ q => q)
          · refine s_aload_n (pc := 109) 0 dX12_stepWord_109 rfl ?_
            refine s_bipush (v := 100) (pc := 110) dX12_stepWord_110 (by decide) ?_
            refine s_bipush (v := 114) (pc := 112) dX12_stepWord_112 (by decide) ?_
            refine s_bipush (v := 97) (pc := 114) dX12_stepWord_114 (by decide) ?_
            refine s_bipush (v := 119) (pc := 116) dX12_stepWord_116 (by decide) ?_
            refine s_iconst (v := 0) (pc := 118) dX12_stepWord_118 (by decide) ?_
            refine s_iconst (v := 0) (pc := 119) dX12_stepWord_119 (by decide) ?_
            refine s_callS (M := MX12_stepWord) (As := [.int 100, .int 114, .int 97, .int 119, .int 0, .int 0]) (st := [.ref mo]) (Ψ := fun (x : Int64) => (some (.long x), rH mo h s)) cs_X12_148 (by decide) (pc := 120) dX12_stepWord_120 rfl (Nat.le_of_ble_eq_true rfl) (fun x hx => pX12_spelled_ok (100 : Int32) (114 : Int32) (97 : Int32) (119 : Int32) (0 : Int32) (0 : Int32) x hx) rfl (fun x11 _ => ?_)
            refine s_callV (M := MX12_stepWord) (As := [.long x11]) (st := []) (Ψ := fun (x : Bool) => (some (.int (b2i x)), rH mo h s)) cv_X12_152 (by decide) (pc := 123) dX12_stepWord_123 r_0 (r_lt (k := 0) hh (by decide)) rfl (Nat.le_of_ble_eq_true rfl) (fun x hx => pX12_isWord_ok hh s x11 x hx) rfl (fun x12 _ => ?_)
            refine s_if_eqB (tgt := 131) (pc := 126) dX12_stepWord_126 (by decide) (fun _ => ?_) (fun _ => ?_)
            · refine s_iconst (v := 5) (pc := 129) dX12_stepWord_129 (by decide) ?_
              exact s_iret (pc := 130) dX12_stepWord_130 rfl (fun _ _ q => q)
            · refine s_aload_n (pc := 131) 0 dX12_stepWord_131 rfl ?_
              refine s_bipush (v := 119) (pc := 132) dX12_stepWord_132 (by decide) ?_
              refine s_bipush (v := 104) (pc := 134) dX12_stepWord_134 (by decide) ?_
              refine s_bipush (v := 101) (pc := 136) dX12_stepWord_136 (by decide) ?_
              refine s_bipush (v := 110) (pc := 138) dX12_stepWord_138 (by decide) ?_
              refine s_iconst (v := 0) (pc := 140) dX12_stepWord_140 (by decide) ?_
              refine s_iconst (v := 0) (pc := 141) dX12_stepWord_141 (by decide) ?_
              refine s_callS (M := MX12_stepWord) (As := [.int 119, .int 104, .int 101, .int 110, .int 0, .int 0]) (st := [.ref mo]) (Ψ := fun (x : Int64) => (some (.long x), rH mo h s)) cs_X12_148 (by decide) (pc := 142) dX12_stepWord_142 rfl (Nat.le_of_ble_eq_true rfl) (fun x hx => pX12_spelled_ok (119 : Int32) (104 : Int32) (101 : Int32) (110 : Int32) (0 : Int32) (0 : Int32) x hx) rfl (fun x13 _ => ?_)
              refine s_callV (M := MX12_stepWord) (As := [.long x13]) (st := []) (Ψ := fun (x : Bool) => (some (.int (b2i x)), rH mo h s)) cv_X12_152 (by decide) (pc := 145) dX12_stepWord_145 r_0 (r_lt (k := 0) hh (by decide)) rfl (Nat.le_of_ble_eq_true rfl) (fun x hx => pX12_isWord_ok hh s x13 x hx) rfl (fun x14 _ => ?_)
              refine s_if_eqB (tgt := 154) (pc := 148) dX12_stepWord_148 (by decide) (fun _ => ?_) (fun _ => ?_)
              · refine s_bipush (v := 6) (pc := 151) dX12_stepWord_151 (by decide) ?_
                exact s_iret (pc := 153) dX12_stepWord_153 rfl (fun _ _ q => q)
              · refine s_aload_n (pc := 154) 0 dX12_stepWord_154 rfl ?_
                refine s_bipush (v := 108) (pc := 155) dX12_stepWord_155 (by decide) ?_
                refine s_bipush (v := 111) (pc := 157) dX12_stepWord_157 (by decide) ?_
                refine s_bipush (v := 111) (pc := 159) dX12_stepWord_159 (by decide) ?_
                refine s_bipush (v := 112) (pc := 161) dX12_stepWord_161 (by decide) ?_
                refine s_iconst (v := 0) (pc := 163) dX12_stepWord_163 (by decide) ?_
                refine s_iconst (v := 0) (pc := 164) dX12_stepWord_164 (by decide) ?_
                refine s_callS (M := MX12_stepWord) (As := [.int 108, .int 111, .int 111, .int 112, .int 0, .int 0]) (st := [.ref mo]) (Ψ := fun (x : Int64) => (some (.long x), rH mo h s)) cs_X12_148 (by decide) (pc := 165) dX12_stepWord_165 rfl (Nat.le_of_ble_eq_true rfl) (fun x hx => pX12_spelled_ok (108 : Int32) (111 : Int32) (111 : Int32) (112 : Int32) (0 : Int32) (0 : Int32) x hx) rfl (fun x15 _ => ?_)
                refine s_callV (M := MX12_stepWord) (As := [.long x15]) (st := []) (Ψ := fun (x : Bool) => (some (.int (b2i x)), rH mo h s)) cv_X12_152 (by decide) (pc := 168) dX12_stepWord_168 r_0 (r_lt (k := 0) hh (by decide)) rfl (Nat.le_of_ble_eq_true rfl) (fun x hx => pX12_isWord_ok hh s x15 x hx) rfl (fun x16 _ => ?_)
                refine s_if_eqB (tgt := 177) (pc := 171) dX12_stepWord_171 (by decide) (fun _ => ?_) (fun _ => ?_)
                · refine s_bipush (v := 7) (pc := 174) dX12_stepWord_174 (by decide) ?_
                  exact s_iret (pc := 176) dX12_stepWord_176 rfl (fun _ _ q => q)
                · refine s_aload_n (pc := 177) 0 dX12_stepWord_177 rfl ?_
                  refine s_bipush (v := 115) (pc := 178) dX12_stepWord_178 (by decide) ?_
                  refine s_bipush (v := 116) (pc := 180) dX12_stepWord_180 (by decide) ?_
                  refine s_bipush (v := 111) (pc := 182) dX12_stepWord_182 (by decide) ?_
                  refine s_bipush (v := 112) (pc := 184) dX12_stepWord_184 (by decide) ?_
                  refine s_iconst (v := 0) (pc := 186) dX12_stepWord_186 (by decide) ?_
                  refine s_iconst (v := 0) (pc := 187) dX12_stepWord_187 (by decide) ?_
                  refine s_callS (M := MX12_stepWord) (As := [.int 115, .int 116, .int 111, .int 112, .int 0, .int 0]) (st := [.ref mo]) (Ψ := fun (x : Int64) => (some (.long x), rH mo h s)) cs_X12_148 (by decide) (pc := 188) dX12_stepWord_188 rfl (Nat.le_of_ble_eq_true rfl) (fun x hx => pX12_spelled_ok (115 : Int32) (116 : Int32) (111 : Int32) (112 : Int32) (0 : Int32) (0 : Int32) x hx) rfl (fun x17 _ => ?_)
                  refine s_callV (M := MX12_stepWord) (As := [.long x17]) (st := []) (Ψ := fun (x : Bool) => (some (.int (b2i x)), rH mo h s)) cv_X12_152 (by decide) (pc := 191) dX12_stepWord_191 r_0 (r_lt (k := 0) hh (by decide)) rfl (Nat.le_of_ble_eq_true rfl) (fun x hx => pX12_isWord_ok hh s x17 x hx) rfl (fun x18 _ => ?_)
                  refine s_if_eqB (tgt := 202) (pc := 194) dX12_stepWord_194 (by decide) (fun _ => ?_) (fun _ => ?_)
                  · refine s_bipush (v := 8) (pc := 197) dX12_stepWord_197 (by decide) ?_
                    refine s_goto (tgt := 203) (pc := 199) dX12_stepWord_199 (by decide) ?_
                    exact s_iret (pc := 203) dX12_stepWord_203 rfl (fun _ _ q => q)
                  · refine s_iconst (v := (-1)) (pc := 202) dX12_stepWord_202 (by decide) ?_
                    exact s_iret (pc := 203) dX12_stepWord_203 rfl (fun _ _ q => q)
theorem pX12_stepWord_ok (hh : mo + 18 ≤ h.2.1) (s : RS) : ∀ x, pX12_stepWord s = some x → aMet l 1 yX12_stepWord cX12_stepWord 1 (some .int) [.ref mo] (rH mo h s) (some (.int x)) (rH mo h s) := fun x hx => a_meth (ini := false) (y := yX12_stepWord) (by decide +kernel) (fun q => by cases q) (fun _ => Nat.le_of_ble_eq_true rfl) (pX12_stepWord_w hh s) x hx _ _ ⟨rfl, rfl⟩
end
section
variable {l : Launch} {n0 S0 : Nat} {mo : Nat} {h : aH}
abbrev MX12_isAt : aM := (cX12_isAt, RX12, 1, (some .boolean), false)
def pX12_isAt (s : RS) : Option Bool :=
  (pX12_spelled (97 : Int32) (116 : Int32) (0 : Int32) (0 : Int32) (0 : Int32) (0 : Int32)).bind fun x1 =>
  (pX12_isWord s x1).bind fun x2 =>
  some x2
theorem pX12_isAt_w (hh : mo + 18 ≤ h.2.1) (s : RS) : aS l 1 MX12_isAt n0 S0 (oΦ (fun (x : Bool) => (some (.int (b2i x)), rH mo h s))) 0 [(0, .ref mo)] [] (rH mo h s) (pX12_isAt s) := by
  unfold pX12_isAt
  refine s_aload_n (pc := 0) 0 dX12_isAt_0 rfl ?_
  refine s_bipush (v := 97) (pc := 1) dX12_isAt_1 (by decide) ?_
  refine s_bipush (v := 116) (pc := 3) dX12_isAt_3 (by decide) ?_
  refine s_iconst (v := 0) (pc := 5) dX12_isAt_5 (by decide) ?_
  refine s_iconst (v := 0) (pc := 6) dX12_isAt_6 (by decide) ?_
  refine s_iconst (v := 0) (pc := 7) dX12_isAt_7 (by decide) ?_
  refine s_iconst (v := 0) (pc := 8) dX12_isAt_8 (by decide) ?_
  refine s_callS (M := MX12_isAt) (As := [.int 97, .int 116, .int 0, .int 0, .int 0, .int 0]) (st := [.ref mo]) (Ψ := fun (x : Int64) => (some (.long x), rH mo h s)) cs_X12_148 (by decide) (pc := 9) dX12_isAt_9 rfl (Nat.le_of_ble_eq_true rfl) (fun x hx => pX12_spelled_ok (97 : Int32) (116 : Int32) (0 : Int32) (0 : Int32) (0 : Int32) (0 : Int32) x hx) rfl (fun x1 _ => ?_)
  refine s_callV (M := MX12_isAt) (As := [.long x1]) (st := []) (Ψ := fun (x : Bool) => (some (.int (b2i x)), rH mo h s)) cv_X12_152 (by decide) (pc := 12) dX12_isAt_12 r_0 (r_lt (k := 0) hh (by decide)) rfl (Nat.le_of_ble_eq_true rfl) (fun x hx => pX12_isWord_ok hh s x1 x hx) rfl (fun x2 _ => ?_)
  exact s_zretB (b := x2) (pc := 15) dX12_isAt_15 rfl (fun _ _ q => q)
theorem pX12_isAt_ok (hh : mo + 18 ≤ h.2.1) (s : RS) : ∀ x, pX12_isAt s = some x → aMet l 1 yX12_isAt cX12_isAt 1 (some .boolean) [.ref mo] (rH mo h s) (some (.int (b2i x))) (rH mo h s) := fun x hx => a_meth (ini := false) (y := yX12_isAt) (by decide +kernel) (fun q => by cases q) (fun _ => Nat.le_of_ble_eq_true rfl) (pX12_isAt_w hh s) x hx _ _ ⟨rfl, rfl⟩
end
section
variable {l : Launch} {n0 S0 : Nat} {mo : Nat} {h : aH}
abbrev MX12_isTo : aM := (cX12_isTo, RX12, 1, (some .boolean), false)
def pX12_isTo (s : RS) : Option Bool :=
  (pX12_spelled (116 : Int32) (111 : Int32) (0 : Int32) (0 : Int32) (0 : Int32) (0 : Int32)).bind fun x1 =>
  (pX12_isWord s x1).bind fun x2 =>
  some x2
theorem pX12_isTo_w (hh : mo + 18 ≤ h.2.1) (s : RS) : aS l 1 MX12_isTo n0 S0 (oΦ (fun (x : Bool) => (some (.int (b2i x)), rH mo h s))) 0 [(0, .ref mo)] [] (rH mo h s) (pX12_isTo s) := by
  unfold pX12_isTo
  refine s_aload_n (pc := 0) 0 dX12_isTo_0 rfl ?_
  refine s_bipush (v := 116) (pc := 1) dX12_isTo_1 (by decide) ?_
  refine s_bipush (v := 111) (pc := 3) dX12_isTo_3 (by decide) ?_
  refine s_iconst (v := 0) (pc := 5) dX12_isTo_5 (by decide) ?_
  refine s_iconst (v := 0) (pc := 6) dX12_isTo_6 (by decide) ?_
  refine s_iconst (v := 0) (pc := 7) dX12_isTo_7 (by decide) ?_
  refine s_iconst (v := 0) (pc := 8) dX12_isTo_8 (by decide) ?_
  refine s_callS (M := MX12_isTo) (As := [.int 116, .int 111, .int 0, .int 0, .int 0, .int 0]) (st := [.ref mo]) (Ψ := fun (x : Int64) => (some (.long x), rH mo h s)) cs_X12_148 (by decide) (pc := 9) dX12_isTo_9 rfl (Nat.le_of_ble_eq_true rfl) (fun x hx => pX12_spelled_ok (116 : Int32) (111 : Int32) (0 : Int32) (0 : Int32) (0 : Int32) (0 : Int32) x hx) rfl (fun x1 _ => ?_)
  refine s_callV (M := MX12_isTo) (As := [.long x1]) (st := []) (Ψ := fun (x : Bool) => (some (.int (b2i x)), rH mo h s)) cv_X12_152 (by decide) (pc := 12) dX12_isTo_12 r_0 (r_lt (k := 0) hh (by decide)) rfl (Nat.le_of_ble_eq_true rfl) (fun x hx => pX12_isWord_ok hh s x1 x hx) rfl (fun x2 _ => ?_)
  exact s_zretB (b := x2) (pc := 15) dX12_isTo_15 rfl (fun _ _ q => q)
theorem pX12_isTo_ok (hh : mo + 18 ≤ h.2.1) (s : RS) : ∀ x, pX12_isTo s = some x → aMet l 1 yX12_isTo cX12_isTo 1 (some .boolean) [.ref mo] (rH mo h s) (some (.int (b2i x))) (rH mo h s) := fun x hx => a_meth (ini := false) (y := yX12_isTo) (by decide +kernel) (fun q => by cases q) (fun _ => Nat.le_of_ble_eq_true rfl) (pX12_isTo_w hh s) x hx _ _ ⟨rfl, rfl⟩
end
section
variable {l : Launch} {n0 S0 : Nat} {mo : Nat} {h : aH}
abbrev MX12_isLate : aM := (cX12_isLate, RX12, 1, (some .boolean), false)
def pX12_isLate (s : RS) : Option Bool :=
  (pX12_spelled (108 : Int32) (97 : Int32) (116 : Int32) (101 : Int32) (0 : Int32) (0 : Int32)).bind fun x1 =>
  (pX12_isWord s x1).bind fun x2 =>
  some x2
theorem pX12_isLate_w (hh : mo + 18 ≤ h.2.1) (s : RS) : aS l 1 MX12_isLate n0 S0 (oΦ (fun (x : Bool) => (some (.int (b2i x)), rH mo h s))) 0 [(0, .ref mo)] [] (rH mo h s) (pX12_isLate s) := by
  unfold pX12_isLate
  refine s_aload_n (pc := 0) 0 dX12_isLate_0 rfl ?_
  refine s_bipush (v := 108) (pc := 1) dX12_isLate_1 (by decide) ?_
  refine s_bipush (v := 97) (pc := 3) dX12_isLate_3 (by decide) ?_
  refine s_bipush (v := 116) (pc := 5) dX12_isLate_5 (by decide) ?_
  refine s_bipush (v := 101) (pc := 7) dX12_isLate_7 (by decide) ?_
  refine s_iconst (v := 0) (pc := 9) dX12_isLate_9 (by decide) ?_
  refine s_iconst (v := 0) (pc := 10) dX12_isLate_10 (by decide) ?_
  refine s_callS (M := MX12_isLate) (As := [.int 108, .int 97, .int 116, .int 101, .int 0, .int 0]) (st := [.ref mo]) (Ψ := fun (x : Int64) => (some (.long x), rH mo h s)) cs_X12_148 (by decide) (pc := 11) dX12_isLate_11 rfl (Nat.le_of_ble_eq_true rfl) (fun x hx => pX12_spelled_ok (108 : Int32) (97 : Int32) (116 : Int32) (101 : Int32) (0 : Int32) (0 : Int32) x hx) rfl (fun x1 _ => ?_)
  refine s_callV (M := MX12_isLate) (As := [.long x1]) (st := []) (Ψ := fun (x : Bool) => (some (.int (b2i x)), rH mo h s)) cv_X12_152 (by decide) (pc := 14) dX12_isLate_14 r_0 (r_lt (k := 0) hh (by decide)) rfl (Nat.le_of_ble_eq_true rfl) (fun x hx => pX12_isWord_ok hh s x1 x hx) rfl (fun x2 _ => ?_)
  exact s_zretB (b := x2) (pc := 17) dX12_isLate_17 rfl (fun _ _ q => q)
theorem pX12_isLate_ok (hh : mo + 18 ≤ h.2.1) (s : RS) : ∀ x, pX12_isLate s = some x → aMet l 1 yX12_isLate cX12_isLate 1 (some .boolean) [.ref mo] (rH mo h s) (some (.int (b2i x))) (rH mo h s) := fun x hx => a_meth (ini := false) (y := yX12_isLate) (by decide +kernel) (fun q => by cases q) (fun _ => Nat.le_of_ble_eq_true rfl) (pX12_isLate_w hh s) x hx _ _ ⟨rfl, rfl⟩
end
section
variable {l : Launch} {n0 S0 : Nat} {mo : Nat} {h : aH}
abbrev MX12_isTwice : aM := (cX12_isTwice, RX12, 1, (some .boolean), false)
def pX12_isTwice (s : RS) : Option Bool :=
  (pX12_spelled (116 : Int32) (119 : Int32) (105 : Int32) (99 : Int32) (101 : Int32) (0 : Int32)).bind fun x1 =>
  (pX12_isWord s x1).bind fun x2 =>
  some x2
theorem pX12_isTwice_w (hh : mo + 18 ≤ h.2.1) (s : RS) : aS l 1 MX12_isTwice n0 S0 (oΦ (fun (x : Bool) => (some (.int (b2i x)), rH mo h s))) 0 [(0, .ref mo)] [] (rH mo h s) (pX12_isTwice s) := by
  unfold pX12_isTwice
  refine s_aload_n (pc := 0) 0 dX12_isTwice_0 rfl ?_
  refine s_bipush (v := 116) (pc := 1) dX12_isTwice_1 (by decide) ?_
  refine s_bipush (v := 119) (pc := 3) dX12_isTwice_3 (by decide) ?_
  refine s_bipush (v := 105) (pc := 5) dX12_isTwice_5 (by decide) ?_
  refine s_bipush (v := 99) (pc := 7) dX12_isTwice_7 (by decide) ?_
  refine s_bipush (v := 101) (pc := 9) dX12_isTwice_9 (by decide) ?_
  refine s_iconst (v := 0) (pc := 11) dX12_isTwice_11 (by decide) ?_
  refine s_callS (M := MX12_isTwice) (As := [.int 116, .int 119, .int 105, .int 99, .int 101, .int 0]) (st := [.ref mo]) (Ψ := fun (x : Int64) => (some (.long x), rH mo h s)) cs_X12_148 (by decide) (pc := 12) dX12_isTwice_12 rfl (Nat.le_of_ble_eq_true rfl) (fun x hx => pX12_spelled_ok (116 : Int32) (119 : Int32) (105 : Int32) (99 : Int32) (101 : Int32) (0 : Int32) x hx) rfl (fun x1 _ => ?_)
  refine s_callV (M := MX12_isTwice) (As := [.long x1]) (st := []) (Ψ := fun (x : Bool) => (some (.int (b2i x)), rH mo h s)) cv_X12_152 (by decide) (pc := 15) dX12_isTwice_15 r_0 (r_lt (k := 0) hh (by decide)) rfl (Nat.le_of_ble_eq_true rfl) (fun x hx => pX12_isWord_ok hh s x1 x hx) rfl (fun x2 _ => ?_)
  exact s_zretB (b := x2) (pc := 18) dX12_isTwice_18 rfl (fun _ _ q => q)
theorem pX12_isTwice_ok (hh : mo + 18 ≤ h.2.1) (s : RS) : ∀ x, pX12_isTwice s = some x → aMet l 1 yX12_isTwice cX12_isTwice 1 (some .boolean) [.ref mo] (rH mo h s) (some (.int (b2i x))) (rH mo h s) := fun x hx => a_meth (ini := false) (y := yX12_isTwice) (by decide +kernel) (fun q => by cases q) (fun _ => Nat.le_of_ble_eq_true rfl) (pX12_isTwice_w hh s) x hx _ _ ⟨rfl, rfl⟩
end
section
variable {l : Launch} {n0 S0 : Nat} {mo : Nat} {h : aH}
abbrev MX12_isHas : aM := (cX12_isHas, RX12, 1, (some .boolean), false)
def pX12_isHas (s : RS) : Option Bool :=
  (pX12_spelled (104 : Int32) (97 : Int32) (115 : Int32) (0 : Int32) (0 : Int32) (0 : Int32)).bind fun x1 =>
  (pX12_isWord s x1).bind fun x2 =>
  some x2
theorem pX12_isHas_w (hh : mo + 18 ≤ h.2.1) (s : RS) : aS l 1 MX12_isHas n0 S0 (oΦ (fun (x : Bool) => (some (.int (b2i x)), rH mo h s))) 0 [(0, .ref mo)] [] (rH mo h s) (pX12_isHas s) := by
  unfold pX12_isHas
  refine s_aload_n (pc := 0) 0 dX12_isHas_0 rfl ?_
  refine s_bipush (v := 104) (pc := 1) dX12_isHas_1 (by decide) ?_
  refine s_bipush (v := 97) (pc := 3) dX12_isHas_3 (by decide) ?_
  refine s_bipush (v := 115) (pc := 5) dX12_isHas_5 (by decide) ?_
  refine s_iconst (v := 0) (pc := 7) dX12_isHas_7 (by decide) ?_
  refine s_iconst (v := 0) (pc := 8) dX12_isHas_8 (by decide) ?_
  refine s_iconst (v := 0) (pc := 9) dX12_isHas_9 (by decide) ?_
  refine s_callS (M := MX12_isHas) (As := [.int 104, .int 97, .int 115, .int 0, .int 0, .int 0]) (st := [.ref mo]) (Ψ := fun (x : Int64) => (some (.long x), rH mo h s)) cs_X12_148 (by decide) (pc := 10) dX12_isHas_10 rfl (Nat.le_of_ble_eq_true rfl) (fun x hx => pX12_spelled_ok (104 : Int32) (97 : Int32) (115 : Int32) (0 : Int32) (0 : Int32) (0 : Int32) x hx) rfl (fun x1 _ => ?_)
  refine s_callV (M := MX12_isHas) (As := [.long x1]) (st := []) (Ψ := fun (x : Bool) => (some (.int (b2i x)), rH mo h s)) cv_X12_152 (by decide) (pc := 13) dX12_isHas_13 r_0 (r_lt (k := 0) hh (by decide)) rfl (Nat.le_of_ble_eq_true rfl) (fun x hx => pX12_isWord_ok hh s x1 x hx) rfl (fun x2 _ => ?_)
  exact s_zretB (b := x2) (pc := 16) dX12_isHas_16 rfl (fun _ _ q => q)
theorem pX12_isHas_ok (hh : mo + 18 ≤ h.2.1) (s : RS) : ∀ x, pX12_isHas s = some x → aMet l 1 yX12_isHas cX12_isHas 1 (some .boolean) [.ref mo] (rH mo h s) (some (.int (b2i x))) (rH mo h s) := fun x hx => a_meth (ini := false) (y := yX12_isHas) (by decide +kernel) (fun q => by cases q) (fun _ => Nat.le_of_ble_eq_true rfl) (pX12_isHas_w hh s) x hx _ _ ⟨rfl, rfl⟩
end
section
variable {l : Launch} {n0 S0 : Nat} {mo : Nat} {h : aH}
abbrev MX12_isQuietWord : aM := (cX12_isQuietWord, RX12, 1, (some .boolean), false)
def pX12_isQuietWord (s : RS) : Option Bool :=
  (pX12_spelled (113 : Int32) (117 : Int32) (105 : Int32) (101 : Int32) (116 : Int32) (0 : Int32)).bind fun x1 =>
  (pX12_isWord s x1).bind fun x2 =>
  some x2
theorem pX12_isQuietWord_w (hh : mo + 18 ≤ h.2.1) (s : RS) : aS l 1 MX12_isQuietWord n0 S0 (oΦ (fun (x : Bool) => (some (.int (b2i x)), rH mo h s))) 0 [(0, .ref mo)] [] (rH mo h s) (pX12_isQuietWord s) := by
  unfold pX12_isQuietWord
  refine s_aload_n (pc := 0) 0 dX12_isQuietWord_0 rfl ?_
  refine s_bipush (v := 113) (pc := 1) dX12_isQuietWord_1 (by decide) ?_
  refine s_bipush (v := 117) (pc := 3) dX12_isQuietWord_3 (by decide) ?_
  refine s_bipush (v := 105) (pc := 5) dX12_isQuietWord_5 (by decide) ?_
  refine s_bipush (v := 101) (pc := 7) dX12_isQuietWord_7 (by decide) ?_
  refine s_bipush (v := 116) (pc := 9) dX12_isQuietWord_9 (by decide) ?_
  refine s_iconst (v := 0) (pc := 11) dX12_isQuietWord_11 (by decide) ?_
  refine s_callS (M := MX12_isQuietWord) (As := [.int 113, .int 117, .int 105, .int 101, .int 116, .int 0]) (st := [.ref mo]) (Ψ := fun (x : Int64) => (some (.long x), rH mo h s)) cs_X12_148 (by decide) (pc := 12) dX12_isQuietWord_12 rfl (Nat.le_of_ble_eq_true rfl) (fun x hx => pX12_spelled_ok (113 : Int32) (117 : Int32) (105 : Int32) (101 : Int32) (116 : Int32) (0 : Int32) x hx) rfl (fun x1 _ => ?_)
  refine s_callV (M := MX12_isQuietWord) (As := [.long x1]) (st := []) (Ψ := fun (x : Bool) => (some (.int (b2i x)), rH mo h s)) cv_X12_152 (by decide) (pc := 15) dX12_isQuietWord_15 r_0 (r_lt (k := 0) hh (by decide)) rfl (Nat.le_of_ble_eq_true rfl) (fun x hx => pX12_isWord_ok hh s x1 x hx) rfl (fun x2 _ => ?_)
  exact s_zretB (b := x2) (pc := 18) dX12_isQuietWord_18 rfl (fun _ _ q => q)
theorem pX12_isQuietWord_ok (hh : mo + 18 ≤ h.2.1) (s : RS) : ∀ x, pX12_isQuietWord s = some x → aMet l 1 yX12_isQuietWord cX12_isQuietWord 1 (some .boolean) [.ref mo] (rH mo h s) (some (.int (b2i x))) (rH mo h s) := fun x hx => a_meth (ini := false) (y := yX12_isQuietWord) (by decide +kernel) (fun q => by cases q) (fun _ => Nat.le_of_ble_eq_true rfl) (pX12_isQuietWord_w hh s) x hx _ _ ⟨rfl, rfl⟩
end
section
variable {l : Launch} {n0 S0 : Nat} {mo : Nat} {h : aH}
abbrev MX12_isDayWord : aM := (cX12_isDayWord, RX12, 1, (some .boolean), false)
def pX12_isDayWord (s : RS) : Option Bool :=
  (pX12_spelled (100 : Int32) (97 : Int32) (121 : Int32) (0 : Int32) (0 : Int32) (0 : Int32)).bind fun x1 =>
  (pX12_isWord s x1).bind fun x2 =>
  some x2
theorem pX12_isDayWord_w (hh : mo + 18 ≤ h.2.1) (s : RS) : aS l 1 MX12_isDayWord n0 S0 (oΦ (fun (x : Bool) => (some (.int (b2i x)), rH mo h s))) 0 [(0, .ref mo)] [] (rH mo h s) (pX12_isDayWord s) := by
  unfold pX12_isDayWord
  refine s_aload_n (pc := 0) 0 dX12_isDayWord_0 rfl ?_
  refine s_bipush (v := 100) (pc := 1) dX12_isDayWord_1 (by decide) ?_
  refine s_bipush (v := 97) (pc := 3) dX12_isDayWord_3 (by decide) ?_
  refine s_bipush (v := 121) (pc := 5) dX12_isDayWord_5 (by decide) ?_
  refine s_iconst (v := 0) (pc := 7) dX12_isDayWord_7 (by decide) ?_
  refine s_iconst (v := 0) (pc := 8) dX12_isDayWord_8 (by decide) ?_
  refine s_iconst (v := 0) (pc := 9) dX12_isDayWord_9 (by decide) ?_
  refine s_callS (M := MX12_isDayWord) (As := [.int 100, .int 97, .int 121, .int 0, .int 0, .int 0]) (st := [.ref mo]) (Ψ := fun (x : Int64) => (some (.long x), rH mo h s)) cs_X12_148 (by decide) (pc := 10) dX12_isDayWord_10 rfl (Nat.le_of_ble_eq_true rfl) (fun x hx => pX12_spelled_ok (100 : Int32) (97 : Int32) (121 : Int32) (0 : Int32) (0 : Int32) (0 : Int32) x hx) rfl (fun x1 _ => ?_)
  refine s_callV (M := MX12_isDayWord) (As := [.long x1]) (st := []) (Ψ := fun (x : Bool) => (some (.int (b2i x)), rH mo h s)) cv_X12_152 (by decide) (pc := 13) dX12_isDayWord_13 r_0 (r_lt (k := 0) hh (by decide)) rfl (Nat.le_of_ble_eq_true rfl) (fun x hx => pX12_isWord_ok hh s x1 x hx) rfl (fun x2 _ => ?_)
  exact s_zretB (b := x2) (pc := 16) dX12_isDayWord_16 rfl (fun _ _ q => q)
theorem pX12_isDayWord_ok (hh : mo + 18 ≤ h.2.1) (s : RS) : ∀ x, pX12_isDayWord s = some x → aMet l 1 yX12_isDayWord cX12_isDayWord 1 (some .boolean) [.ref mo] (rH mo h s) (some (.int (b2i x))) (rH mo h s) := fun x hx => a_meth (ini := false) (y := yX12_isDayWord) (by decide +kernel) (fun q => by cases q) (fun _ => Nat.le_of_ble_eq_true rfl) (pX12_isDayWord_w hh s) x hx _ _ ⟨rfl, rfl⟩
end
section
variable {l : Launch} {n0 S0 : Nat} {mo : Nat} {h : aH}
abbrev MX12_isEnd : aM := (cX12_isEnd, RX12, 1, (some .boolean), false)
def pX12_isEnd (s : RS) : Option Bool :=
  (pX12_spelled (101 : Int32) (110 : Int32) (100 : Int32) (0 : Int32) (0 : Int32) (0 : Int32)).bind fun x1 =>
  (pX12_isWord s x1).bind fun x2 =>
  some x2
theorem pX12_isEnd_w (hh : mo + 18 ≤ h.2.1) (s : RS) : aS l 1 MX12_isEnd n0 S0 (oΦ (fun (x : Bool) => (some (.int (b2i x)), rH mo h s))) 0 [(0, .ref mo)] [] (rH mo h s) (pX12_isEnd s) := by
  unfold pX12_isEnd
  refine s_aload_n (pc := 0) 0 dX12_isEnd_0 rfl ?_
  refine s_bipush (v := 101) (pc := 1) dX12_isEnd_1 (by decide) ?_
  refine s_bipush (v := 110) (pc := 3) dX12_isEnd_3 (by decide) ?_
  refine s_bipush (v := 100) (pc := 5) dX12_isEnd_5 (by decide) ?_
  refine s_iconst (v := 0) (pc := 7) dX12_isEnd_7 (by decide) ?_
  refine s_iconst (v := 0) (pc := 8) dX12_isEnd_8 (by decide) ?_
  refine s_iconst (v := 0) (pc := 9) dX12_isEnd_9 (by decide) ?_
  refine s_callS (M := MX12_isEnd) (As := [.int 101, .int 110, .int 100, .int 0, .int 0, .int 0]) (st := [.ref mo]) (Ψ := fun (x : Int64) => (some (.long x), rH mo h s)) cs_X12_148 (by decide) (pc := 10) dX12_isEnd_10 rfl (Nat.le_of_ble_eq_true rfl) (fun x hx => pX12_spelled_ok (101 : Int32) (110 : Int32) (100 : Int32) (0 : Int32) (0 : Int32) (0 : Int32) x hx) rfl (fun x1 _ => ?_)
  refine s_callV (M := MX12_isEnd) (As := [.long x1]) (st := []) (Ψ := fun (x : Bool) => (some (.int (b2i x)), rH mo h s)) cv_X12_152 (by decide) (pc := 13) dX12_isEnd_13 r_0 (r_lt (k := 0) hh (by decide)) rfl (Nat.le_of_ble_eq_true rfl) (fun x hx => pX12_isWord_ok hh s x1 x hx) rfl (fun x2 _ => ?_)
  exact s_zretB (b := x2) (pc := 16) dX12_isEnd_16 rfl (fun _ _ q => q)
theorem pX12_isEnd_ok (hh : mo + 18 ≤ h.2.1) (s : RS) : ∀ x, pX12_isEnd s = some x → aMet l 1 yX12_isEnd cX12_isEnd 1 (some .boolean) [.ref mo] (rH mo h s) (some (.int (b2i x))) (rH mo h s) := fun x hx => a_meth (ini := false) (y := yX12_isEnd) (by decide +kernel) (fun q => by cases q) (fun _ => Nat.le_of_ble_eq_true rfl) (pX12_isEnd_w hh s) x hx _ _ ⟨rfl, rfl⟩
end
