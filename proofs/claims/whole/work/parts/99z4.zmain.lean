/-! SWAPBOOK'S OWN CONSTRUCTOR, by steps over a list of cells that is a variable -/
def kTok (n : Nat) (T : Nat → Int64) : List aC := [.inr (8, [.ref (n + 1), .ref (n + 2), .int 0, .int (-1), .int (-1), .int 0, .ref (n + 3), .ref (n + 4), .ref (n + 5), .int 0, .int 0]), .inl (2, z_I 900), .inl (1, 28, .inr (.inl T)), .inl (0, z_I 901), .inl (0, z_I 901), .inl (1, z_L 901)]
theorem kTok_len {n : Nat} {T : Nat → Int64} : (kTok n T).length = 6 := rfl
theorem kTok_at {zz : zA} {l : Launch} (h : aH) (n : Nat) (hn : h.2.1 = n) : zMet zz l 4 yX8_init cX8_init 6 none [.ref n] (nH h [.inr (8, [.null, .null, .int 0, .int 0, .int 0, .int 0, .null, .null, .null, .int 0, .int 0])] 11) none (nH h (kTok n kwF) 3642) := ckTokens_at hn
abbrev MX11_init : aM := (cX11_init, RX11, 2, none, true)
section zMain
variable {zz : zA} {l : Launch} {n0 S0 : Nat} {γ : Type} {Φ : γ → Option Value → aH → Prop} {pc : Nat} {h : aH} {e : Option γ} {R : List aC} {k r : Nat} {fs : List Value}
theorem zm_call {index nL d' N m j : Nat} {lv : List (Nat × Value)} {st : List Value} {cs : List aC} {y : MethodName} {cc : ByteArray} {b0 : aC} {ds : Nat → List aC} (hf : a_CN RX11 index y cc nL 0) (hdp : d' + 1 ≤ 5) (hd : decode cX11_init pc = .ok (.invokespecial index, 3)) (hr : (st.map (fun v => v.category)).sum ≤ 8) (hm : ∀ (h : aH) (n : Nat), h.2.1 = n → aMet l d' y cc nL none [.ref n] (nH h [b0] N) none (nH h (ds n) m)) (hj : cs.length = j) (kk : zJ zz l 5 MX11_init n0 S0 Φ (pc + 3) lv st (nH h (cs ++ ds (h.2.1 + j)) (k + m)) e) : zJ zz l 5 MX11_init n0 S0 Φ pc lv (.ref (h.2.1 + j) :: st) (nH h (cs ++ [b0]) (k + N)) e := zn_callN (M := MX11_init) (As := []) (b0 := b0) (N := N) (ds := ds (h.2.1 + j)) (m := m) hf hdp hd rfl hr hj (hm (nH h cs k) (h.2.1 + j) (by show h.2.1 + cs.length = _; rw [hj])) rfl rfl rfl kk
theorem zm_F {ix1 ix2 ix3 ci N nL d' m k0 : Nat} {y : MethodName} {cc : ByteArray} {ty : FieldType} {fin : Bool} {ds : Nat → List aC} {b0 : List Value}
    (hd0 : decode cX11_init pc = .ok (.aload_n 0, 1)) (hd1 : decode cX11_init (pc + 1) = .ok (.new ix1, 3)) (hd2 : decode cX11_init (pc + 4) = .ok (.dup, 1)) (hd3 : decode cX11_init (pc + 5) = .ok (.invokespecial ix2, 3)) (hd4 : decode cX11_init (pc + 8) = .ok (.putfield ix3, 3))
    (hnw : a_NW RX11 ix1 ci N b0) (hcn : a_CN RX11 ix2 y cc nL 0) (hfw : a_FW RX11 ix3 11 k0 ty fin) (hdp : d' + 1 ≤ 5) (hm : ∀ (h : aH) (n : Nat), h.2.1 = n → aMet l d' y cc nL none [.ref n] (nH h [.inr (ci, b0)] N) none (nH h (ds n) m)) (hR : R.length + 1 = r) (hl0 : k0 < fs.length) (hn : ∀ b a, narrow ty (a_v b (.ref a)) = a_v b (.ref a)) (hfit : ∀ b a, fits ty (a_v b (.ref a)) = true)
    (kk : zJ zz l 5 MX11_init n0 S0 Φ (pc + 11) [(0, .ref h.2.1)] [] (nH h (.inr (11, fs.set k0 (.ref (h.2.1 + r))) :: (R ++ ds (h.2.1 + r))) (k + m)) e) :
    zJ zz l 5 MX11_init n0 S0 Φ pc [(0, .ref h.2.1)] [] (nH h (.inr (11, fs) :: R) k) e := by
  refine zs_aload_n (M := MX11_init) (pc := pc) 0 hd0 rfl ?_
  refine zn_new (M := MX11_init) (j := r) hnw (pc := pc + 1) hd1 hR rfl rfl ?_
  refine zs_dup (M := MX11_init) (pc := pc + 4) hd2 rfl ?_
  refine zm_call (cs := .inr (11, fs) :: R) (j := r) (st := [.ref (h.2.1 + r), .ref h.2.1]) hcn hdp (pc := pc + 5) hd3 (Nat.le_of_ble_eq_true rfl) hm hR ?_
  exact zn_put (M := MX11_init) (j := 0) rfl hfw (pc := pc + 8) hd4 rfl hl0 (fun b => hn b _) (fun b => hfit b _) rfl kk
theorem zm_T {T : Nat → Int64} {m8 : Nat} (hTok : ∀ (h : aH) (n : Nat), h.2.1 = n → zMet zz l 4 yX8_init cX8_init 6 none [.ref n] (nH h [.inr (8, [.null, .null, .int 0, .int 0, .int 0, .int 0, .null, .null, .null, .int 0, .int 0])] 11) none (nH h (kTok n T) m8)) (hR : R.length + 1 = r) (hl0 : 1 < fs.length)
    (kk : zJ zz l 5 MX11_init n0 S0 Φ 23 [(0, .ref h.2.1)] [] (nH h (.inr (11, fs.set 1 (.ref (h.2.1 + r))) :: (R ++ kTok (h.2.1 + r) T)) (k + m8)) e) :
    zJ zz l 5 MX11_init n0 S0 Φ 12 [(0, .ref h.2.1)] [] (nH h (.inr (11, fs) :: R) k) e := by
  refine zs_aload_n (M := MX11_init) (pc := 12) 0 dX11_init_12 rfl ?_
  refine zn_new (M := MX11_init) (j := r) nw_X11_15 (pc := 13) dX11_init_13 hR rfl rfl ?_
  refine zs_dup (M := MX11_init) (pc := 16) dX11_init_16 rfl ?_
  refine zn_callIz (l := l) (d := 5) (M := MX11_init) (d' := 4) (h := h) (j := r) (cs := .inr (11, fs) :: R) (k := k) (ds := kTok (h.2.1 + r) T) (m := m8) (As := []) (st := [.ref (h.2.1 + r), .ref h.2.1]) ci_X11_17 (by decide) (pc := 17) dX11_init_17 rfl (Nat.le_of_ble_eq_true rfl) hR (hTok (nH h (.inr (11, fs) :: R) k) _ (by show h.2.1 + (R.length + 1) = _; rw [hR])) rfl rfl rfl ?_
  exact zn_put (M := MX11_init) (j := 0) rfl fw_X11_18 (pc := 20) dX11_init_20 rfl hl0 (fun _ => rfl) (fun _ => rfl) rfl kk
theorem zm_M (hR : R.length + 1 = r) (hl0 : 3 < fs.length)
    (kk : zJ zz l 5 MX11_init n0 S0 Φ 42 [(0, .ref h.2.1)] [] (nH h (.inr (11, fs.set 3 (.ref (h.2.1 + r))) :: (R ++ [.inl (5, z_R 3)])) (k + 3)) e) :
    zJ zz l 5 MX11_init n0 S0 Φ 34 [(0, .ref h.2.1)] [] (nH h (.inr (11, fs) :: R) k) e := by
  refine zs_aload_n (M := MX11_init) (pc := 34) 0 dX11_init_34 rfl ?_
  refine zs_iconst (M := MX11_init) (v := 3) (pc := 35) dX11_init_35 (by decide) ?_
  refine zn_anew (M := MX11_init) (C0 := "SwapBook$State") (t := 5) (N := 3) (j := r) (fun _ _ q => q.2.2.2.2.2) (pc := 36) dX11_init_36 wq_X11_22 (fun _ => rfl) (by decide) (by decide) (by decide) hR rfl rfl ?_
  exact zn_put (M := MX11_init) (j := 0) rfl fw_X11_29 (pc := 39) dX11_init_39 rfl hl0 (fun _ => rfl) (fun _ => rfl) rfl kk
theorem zm_I (hR : R.length + 1 = r) (hl0 : 8 < fs.length)
    (kk : zJ zz l 5 MX11_init n0 S0 Φ 93 [(0, .ref h.2.1)] [] (nH h (.inr (11, fs.set 8 (.ref (h.2.1 + r))) :: (R ++ [.inl (0, z_I 5)])) (k + 5)) e) :
    zJ zz l 5 MX11_init n0 S0 Φ 86 [(0, .ref h.2.1)] [] (nH h (.inr (11, fs) :: R) k) e := by
  refine zs_aload_n (M := MX11_init) (pc := 86) 0 dX11_init_86 rfl ?_
  refine zs_iconst (M := MX11_init) (v := 5) (pc := 87) dX11_init_87 (by decide) ?_
  refine zn_newI (M := MX11_init) (N := 5) (j := r) (pc := 88) dX11_init_88 (by decide) (by decide) (by decide) hR rfl rfl ?_
  exact zn_put (M := MX11_init) (j := 0) rfl fw_X11_57 (pc := 90) dX11_init_90 rfl hl0 (fun _ => rfl) (fun _ => rfl) rfl kk
theorem zm_C (hl0 : fs.length = 14)
    (kk : zJ zz l 5 MX11_init n0 S0 Φ 120 [(1, .int 0), (0, .ref h.2.1)] [] (nH h (.inr (11, ((((fs.set 9 (.int 0)).set 10 (.int 0)).set 11 (.int 0)).set 12 (.long 0)).set 13 (.long 1)) :: R) k) e) :
    zJ zz l 5 MX11_init n0 S0 Φ 93 [(0, .ref h.2.1)] [] (nH h (.inr (11, fs) :: R) k) e := by
  refine zs_aload_n (M := MX11_init) (pc := 93) 0 dX11_init_93 rfl ?_
  refine zs_iconst (M := MX11_init) (v := 0) (pc := 94) dX11_init_94 (by decide) ?_
  refine zn_put (M := MX11_init) (j := 0) rfl fw_X11_61 (pc := 95) dX11_init_95 rfl (by omega) (fun _ => by first | rfl | decide) (fun _ => by first | rfl | decide) rfl ?_
  refine zs_aload_n (M := MX11_init) (pc := 98) 0 dX11_init_98 rfl ?_
  refine zs_iconst (M := MX11_init) (v := 0) (pc := 99) dX11_init_99 (by decide) ?_
  refine zn_put (M := MX11_init) (j := 0) rfl fw_X11_65 (pc := 100) dX11_init_100 rfl (by simp only [List.length_set]; omega) (fun _ => by first | rfl | decide) (fun _ => by first | rfl | decide) rfl ?_
  refine zs_aload_n (M := MX11_init) (pc := 103) 0 dX11_init_103 rfl ?_
  refine zs_iconst (M := MX11_init) (v := 0) (pc := 104) dX11_init_104 (by decide) ?_
  refine zn_put (M := MX11_init) (j := 0) rfl fw_X11_69 (pc := 105) dX11_init_105 rfl (by simp only [List.length_set]; omega) (fun _ => by first | rfl | decide) (fun _ => by first | rfl | decide) rfl ?_
  refine zs_aload_n (M := MX11_init) (pc := 108) 0 dX11_init_108 rfl ?_
  refine zs_lconst (M := MX11_init) (v := 0) (pc := 109) dX11_init_109 (by decide) ?_
  refine zn_put (M := MX11_init) (j := 0) rfl fw_X11_72 (pc := 110) dX11_init_110 rfl (by simp only [List.length_set]; omega) (fun _ => by first | rfl | decide) (fun _ => by first | rfl | decide) rfl ?_
  refine zs_aload_n (M := MX11_init) (pc := 113) 0 dX11_init_113 rfl ?_
  refine zs_lconst (M := MX11_init) (v := 1) (pc := 114) dX11_init_114 (by decide) ?_
  refine zn_put (M := MX11_init) (j := 0) rfl fw_X11_76 (pc := 115) dX11_init_115 rfl (by simp only [List.length_set]; omega) (fun _ => by first | rfl | decide) (fun _ => by first | rfl | decide) rfl ?_
  refine zs_iconst (M := MX11_init) (v := 0) (pc := 118) dX11_init_118 (by decide) ?_
  exact zs_istore_n (M := MX11_init) (lv' := [(1, .int 0), (0, .ref h.2.1)]) (pc := 119) dX11_init_119 (by decide) rfl kk
theorem zm_gt {A B : aC} {X : List aC} {x : aC} : (A :: B :: (R ++ x :: X))[R.length + 2]? = some x := by
  show (R ++ x :: X)[R.length]? = some x
  rw [List.getElem?_append_right (Nat.le_refl _), Nat.sub_self]; rfl
theorem zm_L1 {i i' : Int32} {f : Nat → Option Nat} (hfs : fs[0]? = some (.ref (h.2.1 + 1))) (hi : ¬ (4 : Int32) ≤ i) (hi' : i + 1 = i') (hin : vp_in i 4) (hR : R.length + 2 = r)
    (kk : zJ zz l 5 MX11_init n0 S0 Φ 120 [(1, .int i'), (0, .ref h.2.1)] [] (nH h (.inr (11, fs) :: .inl (4, 4, .inr (.inr (.inr (.inr (va_up f i.toNatClampNeg (some (h.2.1 + r))))))) :: (R ++ kTray (h.2.1 + r))) (k + 63)) e) :
    zJ zz l 5 MX11_init n0 S0 Φ 120 [(1, .int i), (0, .ref h.2.1)] [] (nH h (.inr (11, fs) :: .inl (4, 4, .inr (.inr (.inr (.inr f)))) :: R) k) e := by
  have hg : ∀ q, (.inr (11, fs) :: .inl (4, 4, .inr (.inr (.inr (.inr f)))) :: (R ++ kTray q) : List aC)[r]? = some (.inr (9, [.ref (q + 1), .int (-1), .int 0])) := fun q => by
    rw [← hR]; exact zm_gt
  refine zs_iload_n (M := MX11_init) (pc := 120) 0 dX11_init_120 rfl ?_
  refine zs_iconst (M := MX11_init) (v := 4) (pc := 121) dX11_init_121 (by decide) ?_
  refine zs_geF (M := MX11_init) (tgt := 144) hi (pc := 122) dX11_init_122 (by decide) ?_
  refine zs_aload_n (M := MX11_init) (pc := 125) 1 dX11_init_125 rfl ?_
  refine zs_get (M := MX11_init) fl_X11_11 (pc := 126) dX11_init_126 (nH_at (j := 0) rfl) (nH_lt (j := 0) rfl) hfs ?_
  refine zs_iload_n (M := MX11_init) (pc := 129) 0 dX11_init_129 rfl ?_
  refine zn_new (M := MX11_init) (j := r) nw_X11_9 (pc := 130) dX11_init_130 hR rfl rfl ?_
  refine zs_dup (M := MX11_init) (pc := 133) dX11_init_133 rfl ?_
  refine zm_call (cs := .inr (11, fs) :: .inl (4, 4, .inr (.inr (.inr (.inr f)))) :: R) (j := r) (st := [.ref (h.2.1 + r), .int i, .ref (h.2.1 + 1)]) cn_X11_79 (by decide) (pc := 134) dX11_init_134 (Nat.le_of_ble_eq_true rfl) (fun _ _ hn => ckTray_at hn) hR ?_
  refine zn_aast (M := MX11_init) (t := 4) (ci := 9) (n := 4) (jv := r) (j := 1) (f := f) (r0 := (RX9, TX9, 3)) (pc := 137) dX11_init_137 rfl (hg _) rfl (fun _ => rfl) hin rfl ?_
  refine zs_iinc (M := MX11_init) (pc := 138) 0 (v := 1) (lv' := [(1, .int i'), (0, .ref h.2.1)]) dX11_init_138 rfl (by decide) (by decide) (by subst hi'; rfl) ?_
  exact zs_goto (M := MX11_init) (tgt := 120) (pc := 141) dX11_init_141 (by decide) kk
theorem zm_L1e {i : Int32} {cs : List aC} (hi : (4 : Int32) ≤ i)
    (kk : zJ zz l 5 MX11_init n0 S0 Φ 146 [(1, .int 0), (0, .ref h.2.1)] [] (nH h cs k) e) :
    zJ zz l 5 MX11_init n0 S0 Φ 120 [(1, .int i), (0, .ref h.2.1)] [] (nH h cs k) e := by
  refine zs_iload_n (M := MX11_init) (pc := 120) 0 dX11_init_120 rfl ?_
  refine zs_iconst (M := MX11_init) (v := 4) (pc := 121) dX11_init_121 (by decide) ?_
  refine zs_geT (M := MX11_init) (tgt := 144) hi (pc := 122) dX11_init_122 (by decide) ?_
  refine zs_iconst (M := MX11_init) (v := 0) (pc := 144) dX11_init_144 (by decide) ?_
  exact zs_istore_n (M := MX11_init) (lv' := [(1, .int 0), (0, .ref h.2.1)]) (pc := 145) dX11_init_145 (by decide) rfl kk
theorem zm_gt2 {A B : aC} {Q X : List aC} {x : aC} (hQ : Q.length = 24) : (A :: (Q ++ B :: (R ++ x :: X)))[R.length + 26]? = some x := by
  show (Q ++ B :: (R ++ x :: X))[R.length + 25]? = some x
  rw [List.getElem?_append_right (by omega), show R.length + 25 - Q.length = R.length + 1 by omega]
  show (R ++ x :: X)[R.length]? = some x
  rw [List.getElem?_append_right (Nat.le_refl _), Nat.sub_self]; rfl
theorem zm_at2 {A B : aC} {Q X : List aC} (hQ : Q.length = 24) : (A :: (Q ++ B :: X))[25]? = some B := by
  show (Q ++ B :: X)[24]? = some B
  rw [List.getElem?_append_right (by omega), show 24 - Q.length = 0 by omega]; rfl
theorem zm_set2 {A B C : aC} {Q X : List aC} (hQ : Q.length = 24) : (A :: (Q ++ B :: X)).set 25 C = A :: (Q ++ C :: X) := by
  show A :: (Q ++ B :: X).set 24 C = _
  rw [List.set_append_right (h := by omega), show 24 - Q.length = 0 by omega]; rfl
theorem zm_L2 {i i' : Int32} {f : Nat → Option Nat} {Q : List aC} (hfs : fs[3]? = some (.ref (h.2.1 + 25))) (hi : ¬ (3 : Int32) ≤ i) (hi' : i + 1 = i') (hin : vp_in i 3) (hQ : Q.length = 24) (hR : R.length + 26 = r)
    (kk : zJ zz l 5 MX11_init n0 S0 Φ 146 [(1, .int i'), (0, .ref h.2.1)] [] (nH h (.inr (11, fs) :: (Q ++ .inl (5, 3, .inr (.inr (.inr (.inr (va_up f i.toNatClampNeg (some (h.2.1 + r))))))) :: (R ++ kState (h.2.1 + r)))) (k + 237)) e) :
    zJ zz l 5 MX11_init n0 S0 Φ 146 [(1, .int i), (0, .ref h.2.1)] [] (nH h (.inr (11, fs) :: (Q ++ .inl (5, 3, .inr (.inr (.inr (.inr f)))) :: R)) k) e := by
  have hcl : (.inr (11, fs) :: (Q ++ .inl (5, 3, .inr (.inr (.inr (.inr f)))) :: R) : List aC).length = r := by
    simp only [List.length_cons, List.length_append]; omega
  have hg : ∀ q, (.inr (11, fs) :: (Q ++ .inl (5, 3, .inr (.inr (.inr (.inr f)))) :: (R ++ kState q)) : List aC)[r]? = some (.inr (7, [.ref (q + 1), .null, .ref (q + 15), .ref (q + 16), .int 0])) := fun q => by
    rw [← hR]; exact zm_gt2 hQ
  refine zs_iload_n (M := MX11_init) (pc := 146) 0 dX11_init_146 rfl ?_
  refine zs_iconst (M := MX11_init) (v := 3) (pc := 147) dX11_init_147 (by decide) ?_
  refine zs_geF (M := MX11_init) (tgt := 170) hi (pc := 148) dX11_init_148 (by decide) ?_
  refine zs_aload_n (M := MX11_init) (pc := 151) 1 dX11_init_151 rfl ?_
  refine zs_get (M := MX11_init) fl_X11_29 (pc := 152) dX11_init_152 (nH_at (j := 0) rfl) (nH_lt (j := 0) rfl) hfs ?_
  refine zs_iload_n (M := MX11_init) (pc := 155) 0 dX11_init_155 rfl ?_
  refine zn_new (M := MX11_init) (j := r) nw_X11_22 (pc := 156) dX11_init_156 hcl rfl rfl ?_
  refine zs_dup (M := MX11_init) (pc := 159) dX11_init_159 rfl ?_
  refine zm_call (cs := .inr (11, fs) :: (Q ++ .inl (5, 3, .inr (.inr (.inr (.inr f)))) :: R)) (j := r) (st := [.ref (h.2.1 + r), .int i, .ref (h.2.1 + 25)]) cn_X11_24 (by decide) (pc := 160) dX11_init_160 (Nat.le_of_ble_eq_true rfl) (fun _ _ hn => ckState_at hn) hcl ?_
  have hc : ((.inr (11, fs) :: (Q ++ .inl (5, 3, .inr (.inr (.inr (.inr f)))) :: R)) ++ kState (h.2.1 + r) : List aC) = .inr (11, fs) :: (Q ++ .inl (5, 3, .inr (.inr (.inr (.inr f)))) :: (R ++ kState (h.2.1 + r))) := by
    simp only [List.cons_append, List.append_assoc]
  rw [hc]
  refine zn_aast (M := MX11_init) (t := 5) (ci := 7) (n := 3) (jv := r) (j := 25) (f := f) (r0 := (RX7, TX7, 5)) (pc := 163) dX11_init_163 (zm_at2 hQ) (hg _) rfl (fun _ => rfl) hin (zm_set2 hQ) ?_
  refine zs_iinc (M := MX11_init) (pc := 164) 0 (v := 1) (lv' := [(1, .int i'), (0, .ref h.2.1)]) dX11_init_164 rfl (by decide) (by decide) (by subst hi'; rfl) ?_
  exact zs_goto (M := MX11_init) (tgt := 146) (pc := 167) dX11_init_167 (by decide) kk
theorem zm_L2e {i : Int32} {cs : List aC} {x : γ} (hi : (3 : Int32) ≤ i) (hΦ : ∀ r h', Φ x r h' → r = none ∧ h' = nH h cs k) :
    zJ zz l 5 MX11_init n0 S0 Φ 146 [(1, .int i), (0, .ref h.2.1)] [] (nH h cs k) (some x) := by
  refine zs_iload_n (M := MX11_init) (pc := 146) 0 dX11_init_146 rfl ?_
  refine zs_iconst (M := MX11_init) (v := 3) (pc := 147) dX11_init_147 (by decide) ?_
  refine zs_geT (M := MX11_init) (tgt := 170) hi (pc := 148) dX11_init_148 (by decide) ?_
  exact zs_vret (M := MX11_init) (pc := 170) dX11_init_170 rfl hΦ
theorem zm_0 (kk : zJ zz l 5 MX11_init n0 S0 Φ 12 [(0, .ref h.2.1)] [] (nH h [.inr (11, [.ref (h.2.1 + 1), .null, .null, .null, .null, .null, .null, .null, .null, .int 0, .int 0, .int 0, .long 0, .long 0]), .inl (4, z_R 4)] 18) e) :
    zJ zz l 5 MX11_init n0 S0 Φ 0 [(0, .ref h.2.1)] [] (nH h [.inr (11, [.null, .null, .null, .null, .null, .null, .null, .null, .null, .int 0, .int 0, .int 0, .long 0, .long 0])] 14) e := by
  refine zs_aload_n (M := MX11_init) (pc := 0) 0 dX11_init_0 rfl ?_
  refine zs_objInit (M := MX11_init) wm_X11_1 wi_Object_init wc_Object_init (by decide) (Nat.le_of_ble_eq_true rfl) (pc := 1) dX11_init_1 ?_
  refine zs_aload_n (M := MX11_init) (pc := 4) 0 dX11_init_4 rfl ?_
  refine zs_iconst (M := MX11_init) (v := 4) (pc := 5) dX11_init_5 (by decide) ?_
  refine zn_anew (M := MX11_init) (C0 := "SwapBook$Tray") (t := 4) (N := 4) (j := 1) (cs' := ([.inr (11, [.null, .null, .null, .null, .null, .null, .null, .null, .null, .int 0, .int 0, .int 0, .long 0, .long 0]), .inl (4, z_R 4)])) (k' := 18) (fun _ _ q => q.2.2.2.2.1) (pc := 6) dX11_init_6 wq_X11_9 (fun _ => rfl) (by decide) (by decide) (by decide) rfl rfl rfl ?_
  exact zn_put (M := MX11_init) (j := 0) (cs' := ([.inr (11, [.ref (h.2.1 + 1), .null, .null, .null, .null, .null, .null, .null, .null, .int 0, .int 0, .int 0, .long 0, .long 0]), .inl (4, z_R 4)])) rfl fw_X11_11 (pc := 9) dX11_init_9 rfl (Nat.le_of_ble_eq_true rfl) (fun _ => by first | rfl | decide) (fun _ => by first | rfl | decide) rfl kk
end zMain
/-- the cells that new SwapBook makes: the trays' row, then to the marks' row, then the rest: 138 -/
def kM1 (n : Nat) (T : Nat → Int64) : List aC := [.inl (4, 4, .inr (.inr (.inr (.inr (va_up (va_up (va_up (va_up (fun _ => none) 0 (some (n + 79))) 1 (some (n + 81))) 2 (some (n + 83))) 3 (some (n + 85)))))))] ++ kTok (n + 2) T ++ kState (n + 8)
def kM2 (n : Nat) : List aC := kListing (n + 26) ++ kListing (n + 30) ++ kCounter (n + 34) ++ kVoyage (n + 50) ++ [.inl (0, z_I 5)] ++ kTray (n + 79) ++ kTray (n + 81) ++ kTray (n + 83) ++ kTray (n + 85) ++ kState (n + 87) ++ kState (n + 104) ++ kState (n + 121)
def kMO (n : Nat) : List Value := [.ref (n + 1), .ref (n + 2), .ref (n + 8), .ref (n + 25), .ref (n + 26), .ref (n + 30), .ref (n + 34), .ref (n + 50), .ref (n + 78), .int 0, .int 0, .int 0, .long 0, .long 1]
def kMain (n : Nat) (T : Nat → Int64) : List aC := .inr (11, kMO n) :: (kM1 n T ++ .inl (5, 3, .inr (.inr (.inr (.inr (va_up (va_up (va_up (fun _ => none) 0 (some (n + 87))) 1 (some (n + 104))) 2 (some (n + 121))))))) :: kM2 n)
theorem kM_b {a m : aC} {t s l1 l2 c v i : List aC} : (((((((([a] ++ t) ++ s) ++ [m]) ++ l1) ++ l2) ++ c) ++ v) ++ i) = a :: (((((((t ++ s) ++ [m]) ++ l1) ++ l2) ++ c) ++ v) ++ i) := by
  simp only [List.append_assoc, List.cons_append, List.nil_append]
theorem kM_c {a m : aC} {t s l1 l2 c v i t1 t2 t3 t4 : List aC} : a :: (((((((((((t ++ s) ++ [m]) ++ l1) ++ l2) ++ c) ++ v) ++ i) ++ t1) ++ t2) ++ t3) ++ t4) = ([a] ++ t ++ s) ++ m :: (l1 ++ l2 ++ c ++ v ++ i ++ t1 ++ t2 ++ t3 ++ t4) := by
  simp only [List.append_assoc, List.cons_append, List.nil_append]
set_option maxHeartbeats 4000000 in
theorem ckMain_w {zz : zA} {l : Launch} {n0 S0 : Nat} {h : aH} {T : Nat → Int64} {m8 : Nat} (hTok : ∀ (h : aH) (n : Nat), h.2.1 = n → zMet zz l 4 yX8_init cX8_init 6 none [.ref n] (nH h [.inr (8, [.null, .null, .int 0, .int 0, .int 0, .int 0, .null, .null, .null, .int 0, .int 0])] 11) none (nH h (kTok n T) m8)) : zJ zz l 5 MX11_init n0 S0 (oΦ (fun (_ : Unit) => (none, nH h (kMain h.2.1 T) (18 + m8 + 237 + 3 + 52 + 52 + 219 + 740 + 5 + 63 + 63 + 63 + 63 + 237 + 237 + 237)))) 0 [(0, .ref h.2.1)] [] (nH h [.inr (11, [.null, .null, .null, .null, .null, .null, .null, .null, .null, .int 0, .int 0, .int 0, .long 0, .long 0])] 14) (some ()) := by
  refine zm_0 ?_
  refine zm_T (r := 2) hTok (by simp [kTok_len]) (by simp) ?_
  refine zm_F (r := 8) dX11_init_23 dX11_init_24 dX11_init_27 dX11_init_28 dX11_init_31 nw_X11_22 cn_X11_24 fw_X11_25 (by decide) (fun _ _ hn => ckState_at hn) (by simp [kTok_len]) (by simp) (fun _ _ => rfl) (fun _ _ => rfl) ?_
  refine zm_M (r := 25) (by simp [kTok_len, kState_len]) (by simp) ?_
  refine zm_F (r := 26) dX11_init_42 dX11_init_43 dX11_init_46 dX11_init_47 dX11_init_50 nw_X11_33 cn_X11_35 fw_X11_36 (by decide) (fun _ _ hn => ckListing_at hn) (by simp [kTok_len, kState_len]) (by simp) (fun _ _ => rfl) (fun _ _ => rfl) ?_
  refine zm_F (r := 30) dX11_init_53 dX11_init_54 dX11_init_57 dX11_init_58 dX11_init_61 nw_X11_33 cn_X11_35 fw_X11_40 (by decide) (fun _ _ hn => ckListing_at hn) (by simp [kTok_len, kState_len, kListing_len]) (by simp) (fun _ _ => rfl) (fun _ _ => rfl) ?_
  refine zm_F (r := 34) dX11_init_64 dX11_init_65 dX11_init_68 dX11_init_69 dX11_init_72 nw_X11_43 cn_X11_45 fw_X11_46 (by decide) (fun _ _ hn => ckCounter_at hn) (by simp [kTok_len, kState_len, kListing_len]) (by simp) (fun _ _ => rfl) (fun _ _ => rfl) ?_
  refine zm_F (r := 50) dX11_init_75 dX11_init_76 dX11_init_79 dX11_init_80 dX11_init_83 nw_X11_50 cn_X11_52 fw_X11_53 (by decide) (fun _ _ hn => ckVoyage_at hn) (by simp [kTok_len, kState_len, kListing_len, kCounter_len]) (by simp) (fun _ _ => rfl) (fun _ _ => rfl) ?_
  refine zm_I (r := 78) (by simp [kTok_len, kState_len, kListing_len, kCounter_len, kVoyage_len]) (by simp) ?_
  refine zm_C (by simp) ?_
  rw [kM_b]
  refine zm_L1 (i := 0) (i' := 1) (r := 79) (f := fun _ => none) rfl (by decide) (by decide) (by unfold vp_in; decide) (by simp [kTok_len, kState_len, kListing_len, kCounter_len, kVoyage_len]) ?_
  refine zm_L1 (i := 1) (i' := 2) (r := 81) rfl (by decide) (by decide) (by unfold vp_in; decide) (by simp [kTok_len, kState_len, kListing_len, kCounter_len, kVoyage_len, kTray_len]) ?_
  refine zm_L1 (i := 2) (i' := 3) (r := 83) rfl (by decide) (by decide) (by unfold vp_in; decide) (by simp [kTok_len, kState_len, kListing_len, kCounter_len, kVoyage_len, kTray_len]) ?_
  refine zm_L1 (i := 3) (i' := 4) (r := 85) rfl (by decide) (by decide) (by unfold vp_in; decide) (by simp [kTok_len, kState_len, kListing_len, kCounter_len, kVoyage_len, kTray_len]) ?_
  refine zm_L1e (by decide) ?_
  rw [kM_c]
  refine zm_L2 (i := 0) (i' := 1) (r := 87) (f := fun _ => none) rfl (by decide) (by decide) (by unfold vp_in; decide) (by simp [kTok_len, kState_len]) (by simp [kListing_len, kCounter_len, kVoyage_len, kTray_len]) ?_
  refine zm_L2 (i := 1) (i' := 2) (r := 104) rfl (by decide) (by decide) (by unfold vp_in; decide) (by simp [kTok_len, kState_len]) (by simp [kListing_len, kCounter_len, kVoyage_len, kTray_len, kState_len]) ?_
  refine zm_L2 (i := 2) (i' := 3) (r := 121) rfl (by decide) (by decide) (by unfold vp_in; decide) (by simp [kTok_len, kState_len]) (by simp [kListing_len, kCounter_len, kVoyage_len, kTray_len, kState_len]) ?_
  exact zm_L2e (by decide) (fun _ _ q => q)
theorem ckMain_ok {zz : zA} {l : Launch} {h : aH} {T : Nat → Int64} {m8 : Nat} (hTok : ∀ (h : aH) (n : Nat), h.2.1 = n → zMet zz l 4 yX8_init cX8_init 6 none [.ref n] (nH h [.inr (8, [.null, .null, .int 0, .int 0, .int 0, .int 0, .null, .null, .null, .int 0, .int 0])] 11) none (nH h (kTok n T) m8)) : zMet zz l 5 yX11_init cX11_init 2 none [.ref h.2.1] (nH h [.inr (11, [.null, .null, .null, .null, .null, .null, .null, .null, .null, .int 0, .int 0, .int 0, .long 0, .long 0])] 14) none (nH h (kMain h.2.1 T) (18 + m8 + 237 + 3 + 52 + 52 + 219 + 740 + 5 + 63 + 63 + 63 + 63 + 237 + 237 + 237)) := z_meth (ini := true) (y := yX11_init) (by decide +kernel) (fun _ => rfl) (fun _ => Nat.le_of_ble_eq_true rfl) (ckMain_w hTok) () rfl _ _ ⟨rfl, rfl⟩
theorem kMain_len {n : Nat} {T : Nat → Int64} : (kMain n T).length = 138 := by
  simp [kMain, kM1, kM2, kTok_len, kState_len, kListing_len, kCounter_len, kVoyage_len, kTray_len]
theorem ckMain_at {zz : zA} {l : Launch} {h : aH} {n : Nat} (hn : h.2.1 = n) : zMet zz l 5 yX11_init cX11_init 2 none [.ref n] (nH h [.inr (11, [.null, .null, .null, .null, .null, .null, .null, .null, .null, .int 0, .int 0, .int 0, .long 0, .long 0])] 14) none (nH h (kMain n kwF) 5931) := by
  subst hn
  have q := ckMain_ok (zz := zz) (l := l) (h := h) (T := kwF) (m8 := 3642) kTok_at
  simp only [Nat.reduceAdd] at q
  exact q
