/-! THE STRING OF THE WORDS, and the JDK's methods that read it -/
def kwT : String := "island put key says take of name move settle not after make at ship to late twice out pick when has quiet day draw wait loop end stop "
def kwB : List Int32 := [105, 115, 108, 97, 110, 100, 32, 112, 117, 116, 32, 107, 101, 121, 32, 115, 97, 121, 115, 32, 116, 97, 107, 101, 32, 111, 102, 32, 110, 97, 109, 101, 32, 109, 111, 118, 101, 32, 115, 101, 116, 116, 108, 101, 32, 110, 111, 116, 32, 97, 102, 116, 101, 114, 32, 109, 97, 107, 101, 32, 97, 116, 32, 115, 104, 105, 112, 32, 116, 111, 32, 108, 97, 116, 101, 32, 116, 119, 105, 99, 101, 32, 111, 117, 116, 32, 112, 105, 99, 107, 32, 119, 104, 101, 110, 32, 104, 97, 115, 32, 113, 117, 105, 101, 116, 32, 100, 97, 121, 32, 100, 114, 97, 119, 32, 119, 97, 105, 116, 32, 108, 111, 111, 112, 32, 101, 110, 100, 32, 115, 116, 111, 112, 32]
abbrev zA : Type := Nat × Nat × Nat
/-- a reference, or null -/
def nz : Nat → Value
  | 0 => .null
  | n + 1 => .ref n
def zZ (a : zA) (b : Nat) (U : State) : Prop := vk_S 1 [134] [kwB] (fun _ => a.1) (fun _ => a.2.1) (fun q => b ≤ q) U U.heap ∧ va_Z "java/lang/String" "COMPACT_STRINGS" "Z" (.int 1) (fun q => b ≤ q) U U.heap ∧ va_Z "jdk/internal/util/Preconditions" "SIOOBE_FORMATTER" "Ljava/util/function/BiFunction;" (nz a.2.2) (fun q => b ≤ q) U U.heap ∧ vk_R RX8 48 kwT a.1 U ∧ va_AO "SwapBook$Tray" U ∧ va_AO "SwapBook$State" U
theorem zZ_at {a : zA} {b : Nat} {s U : State} {H : Heap} {locs : List Loc} (hz : zZ a b s) (hS : va_S (fun q => b ≤ q) s.heap H locs) (hU : U.heap = H) (hW : s.WarmedH U.vm) : zZ a b U := by
  obtain ⟨h1, h2, h3, h4, h5, h6⟩ := hz
  refine ⟨?_, ?_, ?_, vk_R.warm hW h4, va_AO.moved hW.alike h5, va_AO.moved hW.alike h6⟩
  · rw [hU]; exact (h1.kept hS.2.1).moved hW.alike
  · rw [hU]; exact (h2.kept hS.2.1).moved hW.alike
  · rw [hU]; exact (h3.kept hS.2.1).moved hW.alike
theorem zZ_blind {a : zA} {b : Nat} {av : List Value} : FrameBlind (va_Pc av (zZ a b)) := fun A U g mk q => by
  obtain ⟨q0, h1, h2, h3, h4, h5, h6⟩ := q
  exact ⟨q0, vk_S.moved (u := U) (U := U.calling g mk A) (Vm.Alike.refl U.vm) h1, va_Z.moved (u := U) (U := U.calling g mk A) (Vm.Alike.refl U.vm) h2, va_Z.moved (u := U) (U := U.calling g mk A) (Vm.Alike.refl U.vm) h3, vk_R.same (u := U) (U := U.calling g mk A) rfl h4, va_AO.moved (u := U) (U := U.calling g mk A) (Vm.Alike.refl U.vm) h5, va_AO.moved (u := U) (U := U.calling g mk A) (Vm.Alike.refl U.vm) h6⟩
/-- a method that changes nothing -/
def pQ (r : Option Value) : Array Value → State → Outcome → State → Prop := fun _ st oc t => oc = .returned r ∧ t.heap = st.heap
def pM (l : Launch) (d : Nat) (y : MethodName) (cc : ByteArray) (nL : Nat) (rt : Option FieldType) (a : zA) (b : Nat) (av : List Value) (r : Option Value) : Prop := Met l y (.code y cc nL rt :: gT) (a_R d 0 0) (va_Pc av (zZ a b)) (pQ r) 0 0 (fun _ => False)
def pCx (p : Program) (s : State) (m : MethodId) (args : Array Value) (meth : Method) (c : Code) (M : aM) : Prop := p.tables.exec = Jvm.exec ∧ c.code = M.1 ∧ c.maxLocals = M.2.2.1 ∧ s.vm.findClass M.2.1 = some m.cls ∧ (∀ w ∈ gT, w.before args s = true) ∧ meth.locks = false ∧ meth.sig.returnType = M.2.2.2.1
def pJ (l : Launch) (d : Nat) (M : aM) (a : zA) (b : Nat) (r : Option Value) (pc : Nat) (lv : List (Nat × Value)) (st : List Value) : Prop := ∀ (p : Program) (e : Env) (s : State) (m : MethodId) (args : Array Value) (below : List Frame) (meth : Method) (c : Code) (ls : Array Slot), pCx p s m args meth c M → zZ a b s → lv_has ls M.2.2.1 lv → W p l e (a_R d 0 0) s m args below meth c s.heap [] 0 0 (MQ below (pQ r) args s 0 0 (fun _ => False)) (F0 m pc ls st)
theorem p_meth {l : Launch} {d nL b : Nat} {a : zA} {y : MethodName} {cc : ByteArray} {rt : Option FieldType} {av : List Value} {r : Option Value} (hy : plainName y.cls = true) (hsl : (lg_sl av).length ≤ nL) (body : pJ l d (cc, y.cls, nL, rt, false) a b r 0 (lv_args 0 av) []) : pM l d y cc nL rt a b av r := by
  refine Met.ofW (cc := cc) (maxL := nL) (ret := rt) hy rfl ?_
  intro p e s m args below meth c s₁ B hml hv
  obtain ⟨rfl, hz⟩ := hv
  have hts := atoms_spec (ws := .code y cc nL rt :: gT) B.pre
  have hl := lv_entry av (n := nL) hsl
  rw [lg_entry_eq]
  generalize (lg_sl av ++ List.replicate (nL - (lg_sl av).length) Slot.unset).toArray = ls at hl ⊢
  exact body p e s m _ below meth c ls ⟨B.exec, B.bytes, hml, findClass_of_methodNamed B.named, fun w hw => hts w (List.mem_cons_of_mem _ hw), B.notSynchronized, B.returns⟩ hz hl
theorem w_pure {p : Program} {l : Launch} {e : Env} {R : Room} {s : State} {m : MethodId} {args : Array Value} {below : List Frame} {meth : Method} {c : Code} {H : Heap} {locs : List Loc} {cells slots : Nat} {Q : State → Prop} {pc : Nat} {ls : Array Slot} {stk rest : List Value} {r : Option Value} {av : Array Value} (hrun : va_Run p l e R s m args below meth c H locs cells slots 0 0 (F0 m pc ls stk) rest (pQ r av) (fun _ => False)) (kk : W p l e R s m args below meth c H locs cells slots Q (F0 m (pc + 3) ls (r.toList ++ rest))) : W p l e R s m args below meth c H locs cells slots Q (F0 m pc ls stk) := by
  intro T hT X
  obtain ⟨v, st₀, t, T', L, h0, X', hL, e1, e2, ⟨hv, hh⟩, go⟩ := hrun T hT X
  cases hv
  have eL : L = [] := List.eq_nil_iff_forall_not_mem.mpr (fun q hq => hL q hq)
  subst eL
  rw [List.append_nil] at X'
  obtain ⟨t2, a1, b1⟩ := kk T' (e1.trans (hh.trans h0)) X'
  exact ⟨t2, go t2 a1, b1⟩
theorem p_cb {s : State} {args : Array Value} {own : String} {index np d' k n : Nat} {y : MethodName} {cc : ByteArray} {nL : Nat} {rt : Option FieldType} {R : Room} (hts : ∀ w ∈ gT, w.before args s = true) (hf : a_CB own index y cc nL rt np) (hfr : d' + 1 ≤ R.frames) (hlo : 64 * d' + 64 ≤ R.locals) : CallB R s args own index y cc nL rt (.code y cc nL rt :: gT) (a_R d' k n) k n np := by
  obtain ⟨h1, h2, h3, h4, h5⟩ := hf
  refine callB_of np hts (gT_in (fun _ h => h) h2) rfl rfl rfl (hts _ h3) (hts _ h1) h5 ⟨hfr, ?_⟩
  show 8 + (nL + 11) + 64 * d' ≤ R.locals
  omega
/-- calls, in any frame that knows of the string -/
theorem w_callV {p : Program} {l : Launch} {e : Env} {R : Room} {s : State} {m : MethodId} {args : Array Value} {below : List Frame} {meth : Method} {c : Code} {H : Heap} {locs : List Loc} {cells slots : Nat} {Q : State → Prop} {pc : Nat} {ls : Array Slot} {st : List Value} {r : Option Value} {a : zA} {b : Nat} {own : String} {cO : ByteArray} {nO : Nat} {y : MethodName} {cc : ByteArray} {nL index np d' : Nat} {rt : Option FieldType} {As : List Value} (S : CallFix p m c cO nO s args gT own) (hz : zZ a b s) (hS : va_S (fun q => b ≤ q) s.heap H locs) (hf : a_CB own index y cc nL rt np) (hi : Cond.instanceMethod y ∈ gT) (hse : Cond.selects y.cls y y ∈ gT) (hy : y.cls = "java/lang/String") (hfr : d' + 1 ≤ R.frames) (hlo : 64 * d' + 64 ≤ R.locals) (hm : pM l d' y cc nL rt a b (.ref a.1 :: As) r) (hlen : As.length = np) (hsz : ls.size = nO) (hr : (st.map (fun v => v.category)).sum ≤ 8) (hcl : cells ≤ R.cells) (hsl : slots ≤ R.slots) (hd : decode cO pc = .ok (.invokevirtual index, 3)) (kk : W p l e R s m args below meth c H locs cells slots Q (F0 m (pc + 3) ls (r.toList ++ st))) : W p l e R s m args below meth c H locs cells slots Q (F0 m pc ls (As.reverse ++ .ref a.1 :: st)) := by
  refine w_pure (va_runV (C := y.cls) (As := As) (b := a.1) S hm ⟨p_cb S.2.2.2.2 hf hfr hlo, S.2.2.2.2 _ hi, S.2.2.2.2 _ hse⟩ ⟨zZ_blind, ?_, fun U hU hW => ⟨rfl, zZ_at hz hS hU hW⟩⟩ rfl hlen hsz rfl (by show 2 * 0 + _ ≤ 8; omega) hd ⟨hcl, hsl⟩) kk
  have := vk_recv (i := 0) hz.1 (by decide) hS
  rw [hy]; exact this
theorem w_callS {p : Program} {l : Launch} {e : Env} {R : Room} {s : State} {m : MethodId} {args : Array Value} {below : List Frame} {meth : Method} {c : Code} {H : Heap} {locs : List Loc} {cells slots : Nat} {Q : State → Prop} {pc : Nat} {ls : Array Slot} {st : List Value} {r : Option Value} {a : zA} {b : Nat} {own : String} {cO : ByteArray} {nO : Nat} {y : MethodName} {cc : ByteArray} {nL index np d' : Nat} {rt : Option FieldType} {As : List Value} (S : CallFix p m c cO nO s args gT own) (hz : zZ a b s) (hS : va_S (fun q => b ≤ q) s.heap H locs) (hf : a_CS own index y cc nL rt np) (hfr : d' + 1 ≤ R.frames) (hlo : 64 * d' + 64 ≤ R.locals) (hm : pM l d' y cc nL rt a b As r) (hlen : As.length = np) (hsz : ls.size = nO) (hr : (st.map (fun v => v.category)).sum ≤ 8) (hcl : cells ≤ R.cells) (hsl : slots ≤ R.slots) (hd : decode cO pc = .ok (.invokestatic index, 3)) {stk : List Value} (hst : stk = As.reverse ++ st) (kk : W p l e R s m args below meth c H locs cells slots Q (F0 m (pc + 3) ls (r.toList ++ st))) : W p l e R s m args below meth c H locs cells slots Q (F0 m pc ls stk) := by
  subst hst
  exact w_pure (va_runS (As := As) S hm ⟨p_cb S.2.2.2.2 hf.1 hfr hlo, S.2.2.2.2 _ hf.2⟩ ⟨zZ_blind, fun U hU hW => ⟨rfl, zZ_at hz hS hU hW⟩⟩ rfl hlen hsz rfl (by show 2 * 0 + _ ≤ 8; omega) hd ⟨hcl, hsl⟩) kk
section J
variable {l : Launch} {a : zA} {b : Nat}
theorem pC_fix {p : Program} {s : State} {m : MethodId} {args : Array Value} {meth : Method} {c : Code} {M : aM} (C : pCx p s m args meth c M) : CallFix p m c M.1 M.2.2.1 s args gT M.2.1 := ⟨C.1, C.2.1, C.2.2.1, C.2.2.2.1, C.2.2.2.2.1⟩
theorem j_coder : pM l 0 yJ0_coder_7d493 cJ0_coder_7d493 1 (some .byte) a b [.ref a.1] (some (.int 0)) := by
  refine p_meth (by decide +kernel) (Nat.le_of_ble_eq_true rfl) (fun p e s m args below meth c ls C hz hl => ?_)
  have hx := C.1
  have hb := C.2.1
  have ho := C.2.2.2.1
  have hts := C.2.2.2.2.1
  refine va_gets hx hb hz.2.1 va_S.rf ho (hts _ wf_J0_38) (fun _ h => h) dJ0_coder_7d493_0 ?_
  refine lv_if_eq (tgt := 13) hx hb dJ0_coder_7d493_3 (by decide) (fun q => absurd q (by decide)) (fun _ => ?_)
  refine lv_aload_n hx hb dJ0_coder_7d493_6 rfl (lv_at hl 0 rfl) ?_
  refine vk_getf hx hb (hz.1.1 0 (by decide)).2.1 va_S.rf ho (hts _ wf_J0_15) (fun _ h => h) dJ0_coder_7d493_7 ?_
  refine lv_goto (tgt := 14) hx hb dJ0_coder_7d493_10 (by decide) ?_
  exact W.zret (v := 0) hx hb C.2.2.2.2.2.2 (by decide) (fun t ht hW => ⟨rfl, ht⟩) (fun q hq => absurd hq List.not_mem_nil) dJ0_coder_7d493_14 (hlocks := C.2.2.2.2.2.1)
theorem j_latin : pM l 0 yJ0_isLatin1_aae02 cJ0_isLatin1_aae02 1 (some .boolean) a b [.ref a.1] (some (.int 1)) := by
  refine p_meth (by decide +kernel) (Nat.le_of_ble_eq_true rfl) (fun p e s m args below meth c ls C hz hl => ?_)
  have hx := C.1
  have hb := C.2.1
  have ho := C.2.2.2.1
  have hts := C.2.2.2.2.1
  refine va_gets hx hb hz.2.1 va_S.rf ho (hts _ wf_J0_38) (fun _ h => h) dJ0_isLatin1_aae02_0 ?_
  refine lv_if_eq (tgt := 17) hx hb dJ0_isLatin1_aae02_3 (by decide) (fun q => absurd q (by decide)) (fun _ => ?_)
  refine lv_aload_n hx hb dJ0_isLatin1_aae02_6 rfl (lv_at hl 0 rfl) ?_
  refine vk_getf hx hb (hz.1.1 0 (by decide)).2.1 va_S.rf ho (hts _ wf_J0_15) (fun _ h => h) dJ0_isLatin1_aae02_7 ?_
  refine lv_if_ne (tgt := 17) hx hb dJ0_isLatin1_aae02_10 (by decide) (fun q => absurd rfl q) (fun _ => ?_)
  refine lv_iconst (v := 1) hx hb dJ0_isLatin1_aae02_13 (by decide) ?_
  refine lv_goto (tgt := 18) hx hb dJ0_isLatin1_aae02_14 (by decide) ?_
  exact W.zret (v := 1) hx hb C.2.2.2.2.2.2 (by decide) (fun t ht hW => ⟨rfl, ht⟩) (fun q hq => absurd hq List.not_mem_nil) dJ0_isLatin1_aae02_18 (hlocks := C.2.2.2.2.2.1)
theorem j_length : pM l 1 yJ0_length_8abf5 cJ0_length_8abf5 1 (some .int) a b [.ref a.1] (some (.int 134)) := by
  refine p_meth (by decide +kernel) (Nat.le_of_ble_eq_true rfl) (fun p e s m args below meth c ls C hz hl => ?_)
  have hx := C.1
  have hb := C.2.1
  have ho := C.2.2.2.1
  have hts := C.2.2.2.2.1
  refine lv_aload_n hx hb dJ0_length_8abf5_0 rfl (lv_at hl 0 rfl) ?_
  refine vk_getf hx hb (hz.1.1 0 (by decide)).2.2.1 va_S.rf ho (hts _ wf_J0_9) (fun _ h => h) dJ0_length_8abf5_1 ?_
  refine va_tlen (v := 134) hx hb (hz.1.1 0 (by decide)).2.2.2 va_S.rf (by decide) dJ0_length_8abf5_4 ?_
  refine lv_aload_n hx hb dJ0_length_8abf5_5 rfl (lv_at hl 0 rfl) ?_
  refine w_callV (As := []) (st := [.int 134]) (pC_fix C) hz va_S.rf ⟨wm_J0_335, wc_J0_coder_7d493, wn_J0, by decide, by decide +kernel⟩ wi_J0_coder_7d493 wl_J0_coder_7d493 rfl (by show 0 + 1 ≤ 1; decide) (by show 64 * 0 + 64 ≤ 64 * 1; decide) j_coder rfl hl.1 (by decide) (Nat.le_refl _) (Nat.le_refl _) dJ0_length_8abf5_6 ?_
  refine lv_ishr hx hb dJ0_length_8abf5_9 ?_
  exact W.iret (v := 134) hx hb C.2.2.2.2.2.2 (fun t ht hW => ⟨rfl, ht⟩) (fun q hq => absurd hq List.not_mem_nil) dJ0_length_8abf5_10 (hlocks := C.2.2.2.2.2.1)
theorem j_check3 {k n : Nat} (hk : k < n) (hn : n < 1000) : pM l 0 yJ3_checkIndex_8e157 cJ3_checkIndex_8e157 3 (some .int) a b [.int (nI k), .int (nI n), nz a.2.2] (some (.int (nI k))) := by
  refine p_meth (by decide +kernel) (by generalize a.2.2 = x; cases x <;> exact Nat.le_of_ble_eq_true rfl) (fun p e s m args below meth c ls C hz hl => ?_)
  have hx := C.1
  have hb := C.2.1
  refine lv_iload_n hx hb dJ3_checkIndex_8e157_0 rfl (lv_at hl 0 rfl) ?_
  refine lv_if_lt (tgt := 9) hx hb dJ3_checkIndex_8e157_1 (by decide) (fun q => absurd q (nI_pos (by omega))) (fun _ => ?_)
  refine lv_iload_n hx hb dJ3_checkIndex_8e157_4 rfl (lv_at hl 0 rfl) ?_
  refine lv_iload_n hx hb dJ3_checkIndex_8e157_5 rfl (lv_at hl 1 rfl) ?_
  refine lv_icmp_lt (tgt := 16) hx hb dJ3_checkIndex_8e157_6 (by decide) (fun _ => ?_) (fun q => absurd (nI_lt hk (by omega)) q)
  refine lv_iload_n hx hb dJ3_checkIndex_8e157_16 rfl (lv_at hl 0 rfl) ?_
  exact W.iret (v := nI k) hx hb C.2.2.2.2.2.2 (fun t ht hW => ⟨rfl, ht⟩) (fun q hq => absurd hq List.not_mem_nil) dJ3_checkIndex_8e157_17 (hlocks := C.2.2.2.2.2.1)
theorem j_check2 {k n : Nat} (hk : k < n) (hn : n < 1000) : pM l 1 yJ0_checkIndex_df160 cJ0_checkIndex_df160 2 none a b [.int (nI k), .int (nI n)] none := by
  refine p_meth (by decide +kernel) (Nat.le_of_ble_eq_true rfl) (fun p e s m args below meth c ls C hz hl => ?_)
  have hx := C.1
  have hb := C.2.1
  have ho := C.2.2.2.1
  have hts := C.2.2.2.2.1
  refine lv_iload_n hx hb dJ0_checkIndex_df160_0 rfl (lv_at hl 0 rfl) ?_
  refine lv_iload_n hx hb dJ0_checkIndex_df160_1 rfl (lv_at hl 1 rfl) ?_
  refine va_gets hx hb hz.2.2.1 va_S.rf ho (hts _ wf_J0_1053) (fun _ h => h) dJ0_checkIndex_df160_2 ?_
  refine w_callS (As := [.int (nI k), .int (nI n), nz a.2.2]) (st := []) (pC_fix C) hz va_S.rf cs_J0_1059 (by show 0 + 1 ≤ 1; decide) (by show 64 * 0 + 64 ≤ 64 * 1; decide) (j_check3 hk hn) rfl hl.1 (by decide) (Nat.le_refl _) (Nat.le_refl _) dJ0_checkIndex_df160_5 rfl ?_
  refine lv_pop hx hb dJ0_checkIndex_df160_8 rfl ?_
  exact W.vret hx hb C.2.2.2.2.2.2 (fun t ht hW => ⟨rfl, ht⟩) (fun q hq => absurd hq List.not_mem_nil) dJ0_checkIndex_df160_9 (hlocks := C.2.2.2.2.2.1)
def chv (k : Nat) : Int32 := ((kwB.getD k 0 &&& 255).toUInt32 % 65536).toInt32
theorem chv_n : ∀ k, k < 134 → narrow .char (.int (chv k)) = .int (chv k) ∧ chv k = kwB.getD k 0 := by decide +kernel
theorem j_char1 {k : Nat} (hk : k < 134) : pM l 2 yJ1_charAt_3b067 cJ1_charAt_3b067 2 (some .char) a b [.ref a.2.1, .int (nI k)] (some (.int (chv k))) := by
  refine p_meth (by decide +kernel) (Nat.le_of_ble_eq_true rfl) (fun p e s m args below meth c ls C hz hl => ?_)
  have hx := C.1
  have hb := C.2.1
  have hT := (hz.1.1 0 (by decide)).2.2.2
  refine lv_iload_n hx hb dJ1_charAt_3b067_0 rfl (lv_at hl 1 rfl) ?_
  refine lv_aload_n hx hb dJ1_charAt_3b067_1 rfl (lv_at hl 0 rfl) ?_
  refine va_tlen (v := nI 134) hx hb hT va_S.rf rfl dJ1_charAt_3b067_2 ?_
  refine w_callS (As := [.int (nI k), .int (nI 134)]) (st := []) (pC_fix C) hz va_S.rf cs_J1_9 (by show 1 + 1 ≤ 2; decide) (by show 64 * 1 + 64 ≤ 64 * 2; decide) (j_check2 hk (by decide)) rfl hl.1 (by decide) (Nat.le_refl _) (Nat.le_refl _) dJ1_charAt_3b067_3 rfl ?_
  refine lv_aload_n hx hb dJ1_charAt_3b067_6 rfl (lv_at hl 0 rfl) ?_
  refine lv_iload_n hx hb dJ1_charAt_3b067_7 rfl (lv_at hl 1 rfl) ?_
  refine va_tb (v := .int (kwB.getD k 0)) hx hb hT va_S.rf (vp_in_nI hk (by decide)) (by rw [nI_clamp (by omega)]; rfl) dJ1_charAt_3b067_8 ?_
  refine lv_sipush (v := 255) hx hb dJ1_charAt_3b067_9 (by decide) ?_
  refine lv_iand hx hb dJ1_charAt_3b067_12 ?_
  refine lv_i2c (v := chv k) hx hb dJ1_charAt_3b067_13 rfl ?_
  exact W.zret (v := chv k) hx hb C.2.2.2.2.2.2 (chv_n k hk).1 (fun t ht hW => ⟨rfl, ht⟩) (fun q hq => absurd hq List.not_mem_nil) dJ1_charAt_3b067_14 (hlocks := C.2.2.2.2.2.1)
theorem j_char {k : Nat} (hk : k < 134) : pM l 3 yJ0_charAt_5068e cJ0_charAt_5068e 2 (some .char) a b [.ref a.1, .int (nI k)] (some (.int (chv k))) := by
  refine p_meth (by decide +kernel) (Nat.le_of_ble_eq_true rfl) (fun p e s m args below meth c ls C hz hl => ?_)
  have hx := C.1
  have hb := C.2.1
  have ho := C.2.2.2.1
  have hts := C.2.2.2.2.1
  refine lv_aload_n hx hb dJ0_charAt_5068e_0 rfl (lv_at hl 0 rfl) ?_
  refine w_callV (As := []) (st := []) (pC_fix C) hz va_S.rf ⟨wm_J0_492, wc_J0_isLatin1_aae02, wn_J0, by decide, by decide +kernel⟩ wi_J0_isLatin1_aae02 wl_J0_isLatin1_aae02 rfl (by show 0 + 1 ≤ 3; decide) (by show 64 * 0 + 64 ≤ 64 * 3; decide) j_latin rfl hl.1 (by decide) (Nat.le_refl _) (Nat.le_refl _) dJ0_charAt_5068e_1 ?_
  refine lv_if_eq (tgt := 16) hx hb dJ0_charAt_5068e_4 (by decide) (fun q => absurd q (by decide)) (fun _ => ?_)
  refine lv_aload_n hx hb dJ0_charAt_5068e_7 rfl (lv_at hl 0 rfl) ?_
  refine vk_getf hx hb (hz.1.1 0 (by decide)).2.2.1 va_S.rf ho (hts _ wf_J0_9) (fun _ h => h) dJ0_charAt_5068e_8 ?_
  refine lv_iload_n hx hb dJ0_charAt_5068e_11 rfl (lv_at hl 1 rfl) ?_
  refine w_callS (As := [.ref a.2.1, .int (nI k)]) (st := []) (pC_fix C) hz va_S.rf cs_J0_495 (by show 2 + 1 ≤ 3; decide) (by show 64 * 2 + 64 ≤ 64 * 3; decide) (j_char1 hk) rfl hl.1 (by decide) (Nat.le_refl _) (Nat.le_refl _) dJ0_charAt_5068e_12 rfl ?_
  exact W.zret (v := chv k) hx hb C.2.2.2.2.2.2 (chv_n k hk).1 (fun t ht hW => ⟨rfl, ht⟩) (fun q hq => absurd hq List.not_mem_nil) dJ0_charAt_5068e_15 (hlocks := C.2.2.2.2.2.1)
end J
