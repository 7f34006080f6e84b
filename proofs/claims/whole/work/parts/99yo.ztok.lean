/-! THE TOKENS' CONSTRUCTOR -/
def kwS : Nat → Nat × Int64 × (Nat → Int64)
  | 0 => (0, 0, fun _ => 0)
  | i + 1 => if kwB.getD i 0 = 32 then ((kwS i).1 + 1, 0, vp_updL (kwS i).2.2 (kwS i).1 (kwS i).2.1) else ((kwS i).1, (kwS i).2.1 * (27 : Int64) + ((kwB.getD i 0 - (97 : Int32)) + (1 : Int32)).toInt64, (kwS i).2.2)
def kwF : Nat → Int64 := (kwS 134).2.2
/-- the same, by lists -/
def kwR : List Int32 → Int64 → List Int64 → List Int64
  | [], _, acc => acc
  | c :: cs, v, acc => if c = 32 then kwR cs 0 (acc ++ [v]) else kwR cs (v * (27 : Int64) + ((c - (97 : Int32)) + (1 : Int32)).toInt64) acc
section Z
variable {zz : zA} {l : Launch} {d : Nat} {M : aM} {n0 S0 : Nat} {γ : Type} {Φ : γ → Option Value → aH → Prop} {pc : Nat} {lv : List (Nat × Value)} {st : List Value} {h h2 : aH} {e : Option γ}
theorem zs_len (hM : M.2.1 = RX8) (hdp : 2 ≤ d) (hd : decode M.1 pc = .ok (.ldc 48, 2)) (hd2 : decode M.1 (pc + 2) = .ok (.invokevirtual 50, 3)) (hr : (st.map (fun v => v.category)).sum ≤ 8) (k : zJ zz l d M n0 S0 Φ (pc + 5) lv (.int 134 :: st) h e) : zJ zz l d M n0 S0 Φ pc lv st h e := fun z hz r h' hr' => by
  have K := k z hz r h' hr'
  refine ⟨K.1, K.2.1, fun p e s m args below meth c D dA b H locs ls hZ C hs hn hS hl hP hQ => ?_⟩
  have k1 := K.1
  have k2 := K.2.1
  have ho := C.2.2.2.1
  rw [hM] at ho
  refine va_ldcS C.1 C.2.1 ho hZ.2.2.2.1 hd ?_
  refine w_callV (As := []) (st := st.map (a_v b)) (d' := 1) ⟨C.1, C.2.1, C.2.2.1, ho, C.2.2.2.2.1⟩ hZ hQ ⟨wm_X8_50, wc_J0_length_8abf5, wn_J0, by decide, by decide +kernel⟩ wi_J0_length_8abf5 wl_J0_length_8abf5 rfl (by show 1 + 1 ≤ d; omega) (by show 64 * 1 + 64 ≤ 64 * d; omega) j_length rfl hl.1 (by rw [a_cats]; exact hr) (by show h.2.1 - n0 ≤ h'.2.1 - n0; omega) (by show h.2.2 - S0 ≤ h'.2.2 - S0; omega) hd2 ?_
  exact K.2.2 p e s m args below meth c D dA b H locs ls hZ C hs hn hS hl hP hQ
theorem zs_chr (hM : M.2.1 = RX8) {i : Nat} (hi : i < 134) (k0 : Nat) (hdp : 4 ≤ d) (hd : decode M.1 pc = .ok (.ldc 48, 2)) (hd1 : decode M.1 (pc + 2) = .ok (.iload 4, 2)) (hk : lv[k0]? = some (4, .int (nI i))) (hd2 : decode M.1 (pc + 4) = .ok (.invokevirtual 56, 3)) (hr : (st.map (fun v => v.category)).sum ≤ 8) (k : zJ zz l d M n0 S0 Φ (pc + 7) lv (.int (chv i) :: st) h e) : zJ zz l d M n0 S0 Φ pc lv st h e := fun z hz r h' hr' => by
  have K := k z hz r h' hr'
  refine ⟨K.1, K.2.1, fun p e s m args below meth c D dA b H locs ls hZ C hs hn hS hl hP hQ => ?_⟩
  have k1 := K.1
  have k2 := K.2.1
  have ho := C.2.2.2.1
  rw [hM] at ho
  refine va_ldcS C.1 C.2.1 ho hZ.2.2.2.1 hd ?_
  refine lv_iload C.1 C.2.1 hd1 (a_lv_at hl hk) ?_
  refine w_callV (np := 1) (As := [.int (nI i)]) (st := st.map (a_v b)) (d' := 3) ⟨C.1, C.2.1, C.2.2.1, ho, C.2.2.2.2.1⟩ hZ hQ ⟨wm_X8_56, wc_J0_charAt_5068e, wn_J0, by decide, by decide +kernel⟩ wi_J0_charAt_5068e wl_J0_charAt_5068e rfl (by show 3 + 1 ≤ d; omega) (by show 64 * 3 + 64 ≤ 64 * d; omega) (j_char hi) rfl hl.1 (by rw [a_cats]; exact hr) (by show h.2.1 - n0 ≤ h'.2.1 - n0; omega) (by show h.2.2 - S0 ≤ h'.2.2 - S0; omega) hd2 ?_
  exact K.2.2 p e s m args below meth c D dA b H locs ls hZ C hs hn hS hl hP hQ
theorem zs_neT {x y : Int32} {off : Int} {tgt : Nat} (hc : ¬ x = y) (hd : decode M.1 pc = .ok (.if_icmp .ne off, 3)) (ht : (pc : Int) + off = (tgt : Int)) (kk : zJ zz l d M n0 S0 Φ tgt lv st h e) : zJ zz l d M n0 S0 Φ pc lv (.int y :: .int x :: st) h e := fun z hz => zs_icmp_ne (e1 := none) (e2 := e) hd ht (fun q => absurd q hc) (fun _ => kk) z (by rw [if_neg hc]; exact hz)
theorem zs_neF {x y : Int32} {off : Int} {tgt : Nat} (hc : x = y) (hd : decode M.1 pc = .ok (.if_icmp .ne off, 3)) (ht : (pc : Int) + off = (tgt : Int)) (kk : zJ zz l d M n0 S0 Φ (pc + 3) lv st h e) : zJ zz l d M n0 S0 Φ pc lv (.int y :: .int x :: st) h e := fun z hz => zs_icmp_ne (e1 := e) (e2 := none) hd ht (fun _ => kk) (fun q => absurd hc q) z (by rw [if_pos hc]; exact hz)
end Z
/-- the cells that new SwapBook$Tokens makes: 6, of 3642 slots -/
def kTokens (n : Nat) : List aC := ([.inr (8, [.ref (n + 1), .ref (n + 2), .int 0, .int (-1), .int (-1), .int 0, .ref (n + 3), .ref (n + 4), .ref (n + 5), .int 0, .int 0]), .inl (2, z_I 900), .inl (1, 28, .inr (.inl kwF)), .inl (0, z_I 901), .inl (0, z_I 901), .inl (1, z_L 901)])
abbrev MX8_init : aM := (cX8_init, RX8, 6, none, true)

def kwC (h : aH) (T : Nat → Int64) : aH := nH h [.inr (8, [.ref (h.2.1 + 1), .ref (h.2.1 + 2), .int 0, .int (-1), .int (-1), .int 0, .ref (h.2.1 + 3), .ref (h.2.1 + 4), .ref (h.2.1 + 5), .int 0, .int 0]), .inl (2, z_I 900), .inl (1, 28, .inr (.inl T)), .inl (0, z_I 901), .inl (0, z_I 901), .inl (1, z_L 901)] 3642
theorem kwS_1 : ∀ i, i < 134 → (kwS i).1 < 28 := by decide +kernel
theorem zk_loop {zz : zA} {l : Launch} {n0 S0 : Nat} {h : aH} : ∀ (n i : Nat), n + i = 134 → zJ zz l 4 MX8_init n0 S0 (oΦ (fun (_ : Unit) => (none, kwC h kwF))) 85 [(4, .int (nI i)), (2, .long (kwS i).2.1), (1, .int (nI (kwS i).1)), (0, .ref h.2.1)] [] (kwC h (kwS i).2.2) (some ())
  | 0, i, hi => by
    have e : i = 134 := by omega
    subst e
    refine zs_iload (pc := 85) 0 dX8_init_85 rfl ?_
    refine zs_len (pc := 87) rfl (by decide) dX8_init_87 dX8_init_89 (Nat.le_of_ble_eq_true rfl) ?_
    refine zs_geT (tgt := 145) (by decide) (pc := 92) dX8_init_92 (by decide) ?_
    exact zs_vret (pc := 145) dX8_init_145 rfl (fun _ _ q => q)
  | n + 1, i, hi => by
    have hi' : i < 134 := by omega
    have hw := kwS_1 i hi'
    have ih := zk_loop (zz := zz) (l := l) (n0 := n0) (S0 := S0) (h := h) n (i + 1) (by omega)
    have ec := (chv_n i hi').2
    refine zs_iload (pc := 85) 0 dX8_init_85 rfl ?_
    refine zs_len (pc := 87) rfl (by decide) dX8_init_87 dX8_init_89 (Nat.le_of_ble_eq_true rfl) ?_
    refine zs_geF (tgt := 145) (nI_ge (b := 134) hi' (by decide)) (pc := 92) dX8_init_92 (by decide) ?_
    refine zs_iload_n (pc := 95) 2 dX8_init_95 rfl ?_
    refine zs_bipush (v := 28) (pc := 96) dX8_init_96 (by decide) ?_
    refine zs_geF (tgt := 145) (nI_ge (b := 28) hw (by decide)) (pc := 98) dX8_init_98 (by decide) ?_
    refine zs_chr (pc := 101) rfl hi' 0 (by decide) dX8_init_101 dX8_init_103 rfl dX8_init_105 (Nat.le_of_ble_eq_true rfl) ?_
    refine zs_istore (lv' := [(5, .int (chv i)), (4, .int (nI i)), (2, .long (kwS i).2.1), (1, .int (nI (kwS i).1)), (0, .ref h.2.1)]) (pc := 108) dX8_init_108 (by decide) rfl ?_
    refine zs_iload (pc := 110) 0 dX8_init_110 rfl ?_
    refine zs_bipush (v := 32) (pc := 112) dX8_init_112 (by decide) ?_
    by_cases hb : kwB.getD i 0 = 32
    · have es : kwS (i + 1) = ((kwS i).1 + 1, 0, vp_updL (kwS i).2.2 (kwS i).1 (kwS i).2.1) := if_pos hb
      rw [es] at ih
      refine zs_neF (tgt := 132) (ec.trans hb) (pc := 114) dX8_init_114 (by decide) ?_
      refine zs_aload_n (pc := 117) 4 dX8_init_117 rfl ?_
      refine zs_get fl_X8_15 (pc := 118) dX8_init_118 (nH_at (j := 0) rfl) (nH_lt (j := 0) rfl) rfl ?_
      refine zs_iload_n (pc := 121) 3 dX8_init_121 rfl ?_
      refine zs_lload_n (pc := 122) 2 dX8_init_122 rfl ?_
      have key := zs_last (zz := zz) (l := l) (d := 4) (M := MX8_init) (n0 := n0) (S0 := S0) (Φ := oΦ (fun (_ : Unit) => ((none : Option Value), kwC h kwF))) (lv := [(5, .int (chv i)), (4, .int (nI i)), (2, .long (kwS i).2.1), (1, .int (nI (kwS i).1)), (0, .ref h.2.1)]) (st := []) (h := kwC h (kwS i).2.2) (e := some ()) (i := nI (kwS i).1) (x := (kwS i).2.1) (pc := 123) dX8_init_123 (nH_at (j := 2) rfl) (nH_lt (j := 2) rfl) (nH_up (j := 2) rfl) (h2 := kwC h (vp_updL (kwS i).2.2 (nI (kwS i).1).toNatClampNeg (kwS i).2.1)) ?_
      · intro z hz
        exact key z (by rw [g_in, if_neg (vp_in_nI hw (by decide))])
      · rw [nI_clamp (by omega)]
        refine zs_iinc (pc := 124) 3 (v := 1) (lv' := [(1, .int (nI (kwS i).1 + 1)), (5, .int (chv i)), (4, .int (nI i)), (2, .long (kwS i).2.1), (0, .ref h.2.1)]) dX8_init_124 rfl (by decide) (by decide) rfl ?_
        refine zs_lconst (v := 0) (pc := 127) dX8_init_127 (by decide) ?_
        refine zs_lstore_n (lv' := [(2, .long 0), (1, .int (nI (kwS i).1 + 1)), (5, .int (chv i)), (4, .int (nI i)), (0, .ref h.2.1)]) (pc := 128) dX8_init_128 (by decide) rfl ?_
        refine zs_goto (tgt := 139) (pc := 129) dX8_init_129 (by decide) ?_
        refine zs_iinc (pc := 139) 3 (v := 1) (lv' := [(4, .int (nI i + 1)), (2, .long 0), (1, .int (nI (kwS i).1 + 1)), (5, .int (chv i)), (0, .ref h.2.1)]) dX8_init_139 rfl (by decide) (by decide) rfl ?_
        refine zs_goto (tgt := 85) (pc := 142) dX8_init_142 (by decide) ?_
        refine zs_sub [0, 1, 2, 4] rfl ?_
        rw [show nI i + 1 = nI (i + 1) from nI_add i 1, show nI (kwS i).1 + 1 = nI ((kwS i).1 + 1) from nI_add _ 1]
        exact ih
    · have es : kwS (i + 1) = ((kwS i).1, (kwS i).2.1 * (27 : Int64) + ((kwB.getD i 0 - (97 : Int32)) + (1 : Int32)).toInt64, (kwS i).2.2) := if_neg hb
      rw [es, ← ec] at ih
      refine zs_neT (tgt := 132) (fun q => hb (ec.symm.trans q)) (pc := 114) dX8_init_114 (by decide) ?_
      refine zs_lload_n (pc := 132) 2 dX8_init_132 rfl ?_
      refine zs_iload (pc := 133) 0 dX8_init_133 rfl ?_
      have q := zs_callS (zz := zz) (l := l) (d := 4) (d' := 0) (M := MX8_init) (n0 := n0) (S0 := S0) (Φ := oΦ (fun (_ : Unit) => ((none : Option Value), kwC h kwF))) (lv := [(5, .int (chv i)), (4, .int (nI i)), (2, .long (kwS i).2.1), (1, .int (nI (kwS i).1)), (0, .ref h.2.1)]) (st := []) (h := kwC h (kwS i).2.2) (pc := 135) (As := [.long (kwS i).2.1, .int (chv i)]) (ec := pX8_withLetter (kwS i).2.1 (chv i)) (kf := fun _ => some ()) (Ψ := fun x => (some (.long x), kwC h (kwS i).2.2)) cs_X8_60 (by decide) dX8_init_135 rfl (by decide) (fun x hx => pX8_withLetter_ok (kwS i).2.1 (chv i) x hx) (stk := [.int (chv i), .long (kwS i).2.1]) rfl (fun x hx => ?_)
      · exact q
      · cases hx
        refine zs_lstore_n (lv' := [(2, .long ((kwS i).2.1 * (27 : Int64) + ((chv i - (97 : Int32)) + (1 : Int32)).toInt64)), (5, .int (chv i)), (4, .int (nI i)), (1, .int (nI (kwS i).1)), (0, .ref h.2.1)]) (pc := 138) dX8_init_138 (by decide) rfl ?_
        refine zs_iinc (pc := 139) 2 (v := 1) (lv' := [(4, .int (nI i + 1)), (2, .long ((kwS i).2.1 * (27 : Int64) + ((chv i - (97 : Int32)) + (1 : Int32)).toInt64)), (5, .int (chv i)), (1, .int (nI (kwS i).1)), (0, .ref h.2.1)]) dX8_init_139 rfl (by decide) (by decide) rfl ?_
        refine zs_goto (tgt := 85) (pc := 142) dX8_init_142 (by decide) ?_
        refine zs_sub [0, 1, 3, 4] rfl ?_
        rw [show nI i + 1 = nI (i + 1) from nI_add i 1]
        exact ih
set_option maxHeartbeats 16000000 in
set_option maxRecDepth 20000 in
theorem ckTokens_w {zz : zA} {l : Launch} {n0 S0 : Nat} {h : aH} : zJ zz l 4 MX8_init n0 S0 (oΦ (fun (_ : Unit) => (none, nH h (kTokens h.2.1) 3642))) 0 [(0, .ref h.2.1)] [] (nH h [.inr (8, [.null, .null, .int 0, .int 0, .int 0, .int 0, .null, .null, .null, .int 0, .int 0])] 11) (some ()) := by
  refine zs_aload_n (pc := 0) 0 dX8_init_0 rfl ?_
  refine zs_objInit wm_X8_3 wi_Object_init wc_Object_init (by decide) (Nat.le_of_ble_eq_true rfl) (pc := 1) dX8_init_1 ?_
  refine zs_aload_n (pc := 4) 0 dX8_init_4 rfl ?_
  refine zs_sipush (v := 900) (pc := 5) dX8_init_5 (by decide) ?_
  refine zn_newB (N := 900) (j := 1) (cs' := ([.inr (8, [.null, .null, .int 0, .int 0, .int 0, .int 0, .null, .null, .null, .int 0, .int 0]), .inl (2, z_I 900)])) (k' := 911) (pc := 8) dX8_init_8 (by decide) (by decide) (by decide) rfl rfl rfl ?_
  refine zn_put (j := 0) (cs' := ([.inr (8, [.ref (h.2.1 + 1), .null, .int 0, .int 0, .int 0, .int 0, .null, .null, .null, .int 0, .int 0]), .inl (2, z_I 900)])) rfl fw_X8_9 (pc := 10) dX8_init_10 rfl (Nat.le_of_ble_eq_true rfl) (fun _ => by first | rfl | decide) (fun _ => by first | rfl | decide) rfl ?_
  refine zs_aload_n (pc := 13) 0 dX8_init_13 rfl ?_
  refine zs_bipush (v := 28) (pc := 14) dX8_init_14 (by decide) ?_
  refine zn_newL (N := 28) (j := 2) (cs' := ([.inr (8, [.ref (h.2.1 + 1), .null, .int 0, .int 0, .int 0, .int 0, .null, .null, .null, .int 0, .int 0]), .inl (2, z_I 900), .inl (1, z_L 28)])) (k' := 939) (pc := 16) dX8_init_16 (by decide) (by decide) (by decide) rfl rfl rfl ?_
  refine zn_put (j := 0) (cs' := ([.inr (8, [.ref (h.2.1 + 1), .ref (h.2.1 + 2), .int 0, .int 0, .int 0, .int 0, .null, .null, .null, .int 0, .int 0]), .inl (2, z_I 900), .inl (1, z_L 28)])) rfl fw_X8_15 (pc := 18) dX8_init_18 rfl (Nat.le_of_ble_eq_true rfl) (fun _ => by first | rfl | decide) (fun _ => by first | rfl | decide) rfl ?_
  refine zs_aload_n (pc := 21) 0 dX8_init_21 rfl ?_
  refine zs_iconst (v := 0) (pc := 22) dX8_init_22 (by decide) ?_
  refine zn_put (j := 0) (cs' := ([.inr (8, [.ref (h.2.1 + 1), .ref (h.2.1 + 2), .int 0, .int 0, .int 0, .int 0, .null, .null, .null, .int 0, .int 0]), .inl (2, z_I 900), .inl (1, z_L 28)])) rfl fw_X8_19 (pc := 23) dX8_init_23 rfl (Nat.le_of_ble_eq_true rfl) (fun _ => by first | rfl | decide) (fun _ => by first | rfl | decide) rfl ?_
  refine zs_aload_n (pc := 26) 0 dX8_init_26 rfl ?_
  refine zs_iconst (v := (-1)) (pc := 27) dX8_init_27 (by decide) ?_
  refine zn_put (j := 0) (cs' := ([.inr (8, [.ref (h.2.1 + 1), .ref (h.2.1 + 2), .int 0, .int (-1), .int 0, .int 0, .null, .null, .null, .int 0, .int 0]), .inl (2, z_I 900), .inl (1, z_L 28)])) rfl fw_X8_23 (pc := 28) dX8_init_28 rfl (Nat.le_of_ble_eq_true rfl) (fun _ => by first | rfl | decide) (fun _ => by first | rfl | decide) rfl ?_
  refine zs_aload_n (pc := 31) 0 dX8_init_31 rfl ?_
  refine zs_iconst (v := (-1)) (pc := 32) dX8_init_32 (by decide) ?_
  refine zn_put (j := 0) (cs' := ([.inr (8, [.ref (h.2.1 + 1), .ref (h.2.1 + 2), .int 0, .int (-1), .int (-1), .int 0, .null, .null, .null, .int 0, .int 0]), .inl (2, z_I 900), .inl (1, z_L 28)])) rfl fw_X8_26 (pc := 33) dX8_init_33 rfl (Nat.le_of_ble_eq_true rfl) (fun _ => by first | rfl | decide) (fun _ => by first | rfl | decide) rfl ?_
  refine zs_aload_n (pc := 36) 0 dX8_init_36 rfl ?_
  refine zs_iconst (v := 0) (pc := 37) dX8_init_37 (by decide) ?_
  refine zn_put (j := 0) (cs' := ([.inr (8, [.ref (h.2.1 + 1), .ref (h.2.1 + 2), .int 0, .int (-1), .int (-1), .int 0, .null, .null, .null, .int 0, .int 0]), .inl (2, z_I 900), .inl (1, z_L 28)])) rfl fw_X8_29 (pc := 38) dX8_init_38 rfl (Nat.le_of_ble_eq_true rfl) (fun _ => by first | rfl | decide) (fun _ => by first | rfl | decide) rfl ?_
  refine zs_aload_n (pc := 41) 0 dX8_init_41 rfl ?_
  refine zs_sipush (v := 901) (pc := 42) dX8_init_42 (by decide) ?_
  refine zn_newI (N := 901) (j := 3) (cs' := ([.inr (8, [.ref (h.2.1 + 1), .ref (h.2.1 + 2), .int 0, .int (-1), .int (-1), .int 0, .null, .null, .null, .int 0, .int 0]), .inl (2, z_I 900), .inl (1, z_L 28), .inl (0, z_I 901)])) (k' := 1840) (pc := 45) dX8_init_45 (by decide) (by decide) (by decide) rfl rfl rfl ?_
  refine zn_put (j := 0) (cs' := ([.inr (8, [.ref (h.2.1 + 1), .ref (h.2.1 + 2), .int 0, .int (-1), .int (-1), .int 0, .ref (h.2.1 + 3), .null, .null, .int 0, .int 0]), .inl (2, z_I 900), .inl (1, z_L 28), .inl (0, z_I 901)])) rfl fw_X8_32 (pc := 47) dX8_init_47 rfl (Nat.le_of_ble_eq_true rfl) (fun _ => by first | rfl | decide) (fun _ => by first | rfl | decide) rfl ?_
  refine zs_aload_n (pc := 50) 0 dX8_init_50 rfl ?_
  refine zs_sipush (v := 901) (pc := 51) dX8_init_51 (by decide) ?_
  refine zn_newI (N := 901) (j := 4) (cs' := ([.inr (8, [.ref (h.2.1 + 1), .ref (h.2.1 + 2), .int 0, .int (-1), .int (-1), .int 0, .ref (h.2.1 + 3), .null, .null, .int 0, .int 0]), .inl (2, z_I 900), .inl (1, z_L 28), .inl (0, z_I 901), .inl (0, z_I 901)])) (k' := 2741) (pc := 54) dX8_init_54 (by decide) (by decide) (by decide) rfl rfl rfl ?_
  refine zn_put (j := 0) (cs' := ([.inr (8, [.ref (h.2.1 + 1), .ref (h.2.1 + 2), .int 0, .int (-1), .int (-1), .int 0, .ref (h.2.1 + 3), .ref (h.2.1 + 4), .null, .int 0, .int 0]), .inl (2, z_I 900), .inl (1, z_L 28), .inl (0, z_I 901), .inl (0, z_I 901)])) rfl fw_X8_36 (pc := 56) dX8_init_56 rfl (Nat.le_of_ble_eq_true rfl) (fun _ => by first | rfl | decide) (fun _ => by first | rfl | decide) rfl ?_
  refine zs_aload_n (pc := 59) 0 dX8_init_59 rfl ?_
  refine zs_sipush (v := 901) (pc := 60) dX8_init_60 (by decide) ?_
  refine zn_newL (N := 901) (j := 5) (cs' := ([.inr (8, [.ref (h.2.1 + 1), .ref (h.2.1 + 2), .int 0, .int (-1), .int (-1), .int 0, .ref (h.2.1 + 3), .ref (h.2.1 + 4), .null, .int 0, .int 0]), .inl (2, z_I 900), .inl (1, z_L 28), .inl (0, z_I 901), .inl (0, z_I 901), .inl (1, z_L 901)])) (k' := 3642) (pc := 63) dX8_init_63 (by decide) (by decide) (by decide) rfl rfl rfl ?_
  refine zn_put (j := 0) (cs' := ([.inr (8, [.ref (h.2.1 + 1), .ref (h.2.1 + 2), .int 0, .int (-1), .int (-1), .int 0, .ref (h.2.1 + 3), .ref (h.2.1 + 4), .ref (h.2.1 + 5), .int 0, .int 0]), .inl (2, z_I 900), .inl (1, z_L 28), .inl (0, z_I 901), .inl (0, z_I 901), .inl (1, z_L 901)])) rfl fw_X8_39 (pc := 65) dX8_init_65 rfl (Nat.le_of_ble_eq_true rfl) (fun _ => by first | rfl | decide) (fun _ => by first | rfl | decide) rfl ?_
  refine zs_aload_n (pc := 68) 0 dX8_init_68 rfl ?_
  refine zs_iconst (v := 0) (pc := 69) dX8_init_69 (by decide) ?_
  refine zn_put (j := 0) (cs' := ([.inr (8, [.ref (h.2.1 + 1), .ref (h.2.1 + 2), .int 0, .int (-1), .int (-1), .int 0, .ref (h.2.1 + 3), .ref (h.2.1 + 4), .ref (h.2.1 + 5), .int 0, .int 0]), .inl (2, z_I 900), .inl (1, z_L 28), .inl (0, z_I 901), .inl (0, z_I 901), .inl (1, z_L 901)])) rfl fw_X8_42 (pc := 70) dX8_init_70 rfl (Nat.le_of_ble_eq_true rfl) (fun _ => by first | rfl | decide) (fun _ => by first | rfl | decide) rfl ?_
  refine zs_aload_n (pc := 73) 0 dX8_init_73 rfl ?_
  refine zs_iconst (v := 0) (pc := 74) dX8_init_74 (by decide) ?_
  refine zn_put (j := 0) (cs' := ([.inr (8, [.ref (h.2.1 + 1), .ref (h.2.1 + 2), .int 0, .int (-1), .int (-1), .int 0, .ref (h.2.1 + 3), .ref (h.2.1 + 4), .ref (h.2.1 + 5), .int 0, .int 0]), .inl (2, z_I 900), .inl (1, z_L 28), .inl (0, z_I 901), .inl (0, z_I 901), .inl (1, z_L 901)])) rfl fw_X8_45 (pc := 75) dX8_init_75 rfl (Nat.le_of_ble_eq_true rfl) (fun _ => by first | rfl | decide) (fun _ => by first | rfl | decide) rfl ?_
  refine zs_iconst (v := 0) (pc := 78) dX8_init_78 (by decide) ?_
  refine zs_istore_n (lv' := [(1, .int 0), (0, .ref h.2.1)]) (pc := 79) dX8_init_79 (by decide) rfl ?_
  refine zs_lconst (v := 0) (pc := 80) dX8_init_80 (by decide) ?_
  refine zs_lstore_n (lv' := [(2, .long 0), (1, .int 0), (0, .ref h.2.1)]) (pc := 81) dX8_init_81 (by decide) rfl ?_
  refine zs_iconst (v := 0) (pc := 82) dX8_init_82 (by decide) ?_
  refine zs_istore (lv' := [(4, .int 0), (2, .long 0), (1, .int 0), (0, .ref h.2.1)]) (pc := 83) dX8_init_83 (by decide) rfl ?_
  exact zk_loop 134 0 rfl
theorem ckTokens_ok {zz : zA} {l : Launch} {h : aH} : zMet zz l 4 yX8_init cX8_init 6 none [.ref h.2.1] (nH h [.inr (8, [.null, .null, .int 0, .int 0, .int 0, .int 0, .null, .null, .null, .int 0, .int 0])] 11) none (nH h (kTokens h.2.1) 3642) := z_meth (ini := true) (y := yX8_init) (by decide +kernel) (fun _ => rfl) (fun _ => Nat.le_of_ble_eq_true rfl) (ckTokens_w) () rfl _ _ ⟨rfl, rfl⟩
theorem ckTokens_at {zz : zA} {l : Launch} {h : aH} {n : Nat} (hn : h.2.1 = n) : zMet zz l 4 yX8_init cX8_init 6 none [.ref n] (nH h [.inr (8, [.null, .null, .int 0, .int 0, .int 0, .int 0, .null, .null, .null, .int 0, .int 0])] 11) none (nH h (kTokens n) 3642) := by subst hn; exact ckTokens_ok
theorem kTokens_len {n : Nat} : (kTokens n).length = 6 := rfl
