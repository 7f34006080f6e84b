def a_CB (own : String) (index : Nat) (y : MethodName) (cc : ByteArray) (nL : Nat) (ret : Option FieldType) (np : Nat) : Prop := Cond.methodLink own index y ∈ gT ∧ Cond.code y cc nL ret ∈ gT ∧ Cond.initialized y.cls ∈ gT ∧ nL ≤ 45 ∧ (y.cls ≠ "java/lang/invoke/MethodHandle" ∧ y.cls ≠ "java/lang/invoke/VarHandle" ∧ (parseMethodDescriptor y.desc).map (fun d => d.parameters.length) = some np)
def a_CV (own : String) (index ci : Nat) (y : MethodName) (cc : ByteArray) (nL : Nat) (ret : Option FieldType) (np : Nat) : Prop := a_CB own index y cc nL ret np ∧ Cond.instanceMethod y ∈ gT ∧ Cond.selects y.cls y y ∈ gT ∧ ∃ q : vw_C, vwCl[ci]? = some q ∧ q.1 = y.cls
def a_CS (own : String) (index : Nat) (y : MethodName) (cc : ByteArray) (nL : Nat) (ret : Option FieldType) (np : Nat) : Prop := a_CB own index y cc nL ret np ∧ Cond.static y ∈ gT
def a_CI (own : String) (index : Nat) (y : MethodName) (cc : ByteArray) (nL : Nat) (np : Nat) : Prop := a_CB own index y cc nL none np ∧ Cond.instanceMethod y ∈ gT ∧ y.name = "<init>"
def a_CN (own : String) (index : Nat) (y : MethodName) (cc : ByteArray) (nL : Nat) (np : Nat) : Prop := (Cond.methodLinkNest own index y "SwapBook" ∈ gN ∧ Cond.code y cc nL none ∈ gT ∧ Cond.initialized y.cls ∈ gT ∧ nL ≤ 45 ∧ (y.cls ≠ "java/lang/invoke/MethodHandle" ∧ y.cls ≠ "java/lang/invoke/VarHandle" ∧ (parseMethodDescriptor y.desc).map (fun d => d.parameters.length) = some np)) ∧ Cond.instanceMethod y ∈ gT ∧ y.name = "<init>"
theorem a_args (b : Nat) : ∀ (k : Nat) (av : List Value), lv_args k (av.map (a_v b)) = (lv_args k av).map (fun q => (q.1, a_v b q.2))
  | _, [] => rfl
  | k, v :: vs => by
    simp only [List.map_cons, lv_args, a_v_cat, a_args b]
theorem a_blind {D : va_G} {dA : Nat → ClassId} {b n : Nat} {ws : va_W} {av : List Value} : FrameBlind (va_Pc av (fun U => U.heap.size = n ∧ va_P D vwCl ws U.heap ∧ va_K D vwCl (a_ty dA) U ∧ ∀ w ∈ gN, va_Nw w U)) := fun a U g mk q => by
  obtain ⟨q0, q1, qP, qK, qN⟩ := q
  exact ⟨q0, q1, qP, va_K.moved (u := U) (U := U.calling g mk a) (Vm.Alike.refl U.vm) qK, fun w hw => va_Nw.same (u := U) (U := U.calling g mk a) (gN_on w hw) rfl (qN w hw)⟩
section aCalls
variable {l : Launch} {d : Nat} {M : aM} {n0 S0 : Nat} {γ : Type} {Φ : γ → Option Value → aH → Prop} {pc : Nat} {lv : List (Nat × Value)} {st : List Value} {h h2 : aH} {e e1 e2 : Option γ}
theorem a_after {p : Program} {ev : Env} {R : Room} {s : State} {m : MethodId} {args : Array Value} {below : List Frame} {meth : Method} {c : Code} {H : Heap} {locs : List Loc} {Q : State → Prop} {ls : Array Slot} {stk : List Value} {h1 : aH} {r1 : Option Value} {av : Array Value} {b : Nat} {dA : Nat → ClassId} {D : va_G}
    (hrun : va_Run p l ev R s m args below meth c H locs (h.2.1 - n0) (h.2.2 - S0) (h1.2.1 - h.2.1) (h1.2.2 - h.2.2) (F0 m pc ls stk) (st.map (a_v b)) (a_Q b dA D r1 h1 av) (fun q => b ≤ q)) (m1 : h.2.1 ≤ h1.2.1) (m2 : h.2.2 ≤ h1.2.2) (hn : n0 ≤ h.2.1) (hS0 : S0 ≤ h.2.2) (hQ : va_S (fun q => b ≤ q) s.heap H locs)
    (kk : ∀ (H1 : Heap) (locs1 : List Loc), va_P D vwCl (a_w b dA h1) H1 → va_S (fun q => b ≤ q) s.heap H1 locs1 → W p l ev R s m args below meth c H1 locs1 (h1.2.1 - n0) (h1.2.2 - S0) Q (F0 m (pc + 3) ls ((r1.toList ++ st).map (a_v b)))) : W p l ev R s m args below meth c H locs (h.2.1 - n0) (h.2.2 - S0) Q (F0 m pc ls stk) := by
  intro T hT X
  obtain ⟨v, st₀, t, T', L, h0, X', hL, e1, e2, ⟨⟨hv, hsz, hP1⟩, hz, hk⟩, go⟩ := hrun T hT X
  cases hv
  rw [h0] at hz hk
  rw [show h.2.1 - n0 + (h1.2.1 - h.2.1) = h1.2.1 - n0 by omega, show h.2.2 - S0 + (h1.2.2 - h.2.2) = h1.2.2 - S0 by omega] at X'
  obtain ⟨t2, a1, b1⟩ := kk T'.heap (locs ++ L) (by rw [e1]; exact hP1) ⟨Nat.le_trans hQ.1 (by rw [e1]; exact hz), fun q h1 h2 => by rw [e1, hk q (Nat.lt_of_lt_of_le h1 hQ.1) h2]; exact hQ.2.1 q h1 h2, fun q hq => by
      rcases List.mem_append.mp hq with h | h
      · exact hQ.2.2 q h
      · exact hL q h⟩ T' rfl X'
  refine ⟨t2, go t2 ?_, b1⟩
  have e3 : (r1.map (a_v b)).toList ++ st.map (a_v b) = (r1.toList ++ st).map (a_v b) := by cases r1 <;> simp
  rw [e3]
  exact a1
theorem a_callB {p : Program} {s : State} {m : MethodId} {args : Array Value} {meth : Method} {c : Code} {D : va_G} {dA : Nat → ClassId} {own : String} {index np d' k n : Nat} {y : MethodName} {cc : ByteArray} {nL : Nat} {ret : Option FieldType} {R : Room} (C : a_Cx p s m args meth c D dA M) (hf : a_CB own index y cc nL ret np) (hdp : d' + 1 ≤ d) (hR : R.frames = d ∧ R.locals = 64 * d) : CallB R s args own index y cc nL ret (.code y cc nL ret :: gT) (a_R d' k n) k n np := by
  obtain ⟨h1, h2, h3, h4, h5⟩ := hf
  refine callB_of np C.2.2.2.2.1 (gT_in (fun _ h => h) h2) rfl rfl rfl (C.2.2.2.2.1 _ h3) (C.2.2.2.2.1 _ h1) h5 ⟨?_, ?_⟩
  · show d' + 1 ≤ R.frames
    rw [hR.1]; exact hdp
  · show 8 + (nL + 11) + 64 * d' ≤ R.locals
    rw [hR.2]; omega
theorem a_room {b : Nat} {m : MethodId} {ls : Array Slot} {stk st : List Value} (hr : (st.map (fun v => v.category)).sum ≤ 8) : 2 * (F0 m pc ls stk).monitorRoom + ((st.map (a_v b)).map fun v => v.category).sum ≤ 8 := by
  rw [a_cats]
  show 2 * 0 + _ ≤ 8
  omega
theorem s_callV {δ : Type} {d' index ci np a : Nat} {y : MethodName} {cc : ByteArray} {nL : Nat} {ret : Option FieldType} {Ψ : δ → Option Value × aH} {ec : Option δ} {kf : δ → Option γ} {As fs : List Value} (hf : a_CV M.2.1 index ci y cc nL ret np) (hdp : d' + 1 ≤ d) (hd : decode M.1 pc = .ok (.invokevirtual index, 3)) (hc : h.1 a = .inr (ci, fs)) (ha : a < h.2.1) (hlen : As.length = np) (hr : (st.map (fun v => v.category)).sum ≤ 8)
    (hm : ∀ x, ec = some x → aMet l d' y cc nL ret (.ref a :: As) h (Ψ x).1 (Ψ x).2) {stk : List Value} (hst : stk = As.reverse ++ .ref a :: st) (k : ∀ x, ec = some x → aS l d M n0 S0 Φ (pc + 3) lv ((Ψ x).1.toList ++ st) (Ψ x).2 (kf x)) : aS l d M n0 S0 Φ pc lv stk h (ec.bind kf) := by
  subst hst
  intro z hz r h' hrr
  obtain ⟨x, hx, hk⟩ := Option.bind_eq_some_iff.mp hz
  obtain ⟨q1, q2, q3⟩ := k x hx z hk r h' hrr
  obtain ⟨m1, m2, m3⟩ := hm x hx
  obtain ⟨hB, hi, hse, q, hq, hqc⟩ := hf
  refine ⟨Nat.le_trans m1 q1, Nat.le_trans m2 q2, fun p e s m args below meth c D dA b H locs ls C hs hn hS hl hP hQ => ?_⟩
  intro T hT X
  have hsz := a_size X hT hs hn hP
  refine a_after (st := st) (va_runV (C := y.cls) (As := As.map (a_v b)) (b := b + a) ⟨C.1, C.2.1, C.2.2.1, C.2.2.2.1, C.2.2.2.2.1⟩ (m3 D dA b) ⟨a_callB C hB hdp ⟨rfl, rfl⟩, C.2.2.2.2.1 _ hi, C.2.2.2.2.1 _ hse⟩ ⟨a_blind (b := b), ?_, fun U hU hW => ⟨rfl, by rw [hU]; exact hsz, by rw [hU]; exact hP, va_K.moved hW.alike C.2.2.2.2.2.2.2.2.2, fun w hw => gN_warm hW w hw (C.2.2.2.2.2.1 w hw)⟩⟩ rfl (by rw [List.length_map]; exact hlen) hl.1 (by simp [List.map_append, List.map_reverse, a_v]) (a_room hr) hd ⟨by show h.2.1 - n0 + _ ≤ h'.2.1 - n0; omega, by show h.2.2 - S0 + _ ≤ h'.2.2 - S0; omega⟩) m1 m2 hn hS hQ (fun H1 locs1 hP1 hQ1 => q3 p e s m args below meth c D dA b H1 locs1 ls C hs (Nat.le_trans hn m1) (Nat.le_trans hS m2) hl hP1 hQ1) T hT X
  have := va_recv C.2.2.2.2.2.2.2.2.2 hP hq (q0 := a) (fs := fs.map (a_v b)) (by rw [a_w_at ha, hc]; rfl)
  rw [hqc] at this
  exact this
theorem s_callS {δ : Type} {d' index np : Nat} {y : MethodName} {cc : ByteArray} {nL : Nat} {ret : Option FieldType} {Ψ : δ → Option Value × aH} {ec : Option δ} {kf : δ → Option γ} {As : List Value} (hf : a_CS M.2.1 index y cc nL ret np) (hdp : d' + 1 ≤ d) (hd : decode M.1 pc = .ok (.invokestatic index, 3)) (hlen : As.length = np) (hr : (st.map (fun v => v.category)).sum ≤ 8)
    (hm : ∀ x, ec = some x → aMet l d' y cc nL ret As h (Ψ x).1 (Ψ x).2) {stk : List Value} (hst : stk = As.reverse ++ st) (k : ∀ x, ec = some x → aS l d M n0 S0 Φ (pc + 3) lv ((Ψ x).1.toList ++ st) (Ψ x).2 (kf x)) : aS l d M n0 S0 Φ pc lv stk h (ec.bind kf) := by
  subst hst
  intro z hz r h' hrr
  obtain ⟨x, hx, hk⟩ := Option.bind_eq_some_iff.mp hz
  obtain ⟨q1, q2, q3⟩ := k x hx z hk r h' hrr
  obtain ⟨m1, m2, m3⟩ := hm x hx
  obtain ⟨hB, hi⟩ := hf
  refine ⟨Nat.le_trans m1 q1, Nat.le_trans m2 q2, fun p e s m args below meth c D dA b H locs ls C hs hn hS hl hP hQ => ?_⟩
  intro T hT X
  have hsz := a_size X hT hs hn hP
  exact a_after (st := st) (va_runS (As := As.map (a_v b)) ⟨C.1, C.2.1, C.2.2.1, C.2.2.2.1, C.2.2.2.2.1⟩ (m3 D dA b) ⟨a_callB C hB hdp ⟨rfl, rfl⟩, C.2.2.2.2.1 _ hi⟩ ⟨a_blind (b := b), fun U hU hW => ⟨rfl, by rw [hU]; exact hsz, by rw [hU]; exact hP, va_K.moved hW.alike C.2.2.2.2.2.2.2.2.2, fun w hw => gN_warm hW w hw (C.2.2.2.2.2.1 w hw)⟩⟩ rfl (by rw [List.length_map]; exact hlen) hl.1 (by simp [List.map_append, List.map_reverse]) (a_room hr) hd ⟨by show h.2.1 - n0 + _ ≤ h'.2.1 - n0; omega, by show h.2.2 - S0 + _ ≤ h'.2.2 - S0; omega⟩) m1 m2 hn hS hQ (fun H1 locs1 hP1 hQ1 => q3 p e s m args below meth c D dA b H1 locs1 ls C hs (Nat.le_trans hn m1) (Nat.le_trans hS m2) hl hP1 hQ1) T hT X
theorem s_callI {δ : Type} {d' index np a : Nat} {y : MethodName} {cc : ByteArray} {nL : Nat} {Ψ : δ → Option Value × aH} {ec : Option δ} {kf : δ → Option γ} {As : List Value} (hf : a_CI M.2.1 index y cc nL np) (hdp : d' + 1 ≤ d) (hd : decode M.1 pc = .ok (.invokespecial index, 3)) (hlen : As.length = np) (hr : (st.map (fun v => v.category)).sum ≤ 8)
    (hm : ∀ x, ec = some x → aMet l d' y cc nL none (.ref a :: As) h (Ψ x).1 (Ψ x).2) {stk : List Value} (hst : stk = As.reverse ++ .ref a :: st) (k : ∀ x, ec = some x → aS l d M n0 S0 Φ (pc + 3) lv ((Ψ x).1.toList ++ st) (Ψ x).2 (kf x)) : aS l d M n0 S0 Φ pc lv stk h (ec.bind kf) := by
  subst hst
  intro z hz r h' hrr
  obtain ⟨x, hx, hk⟩ := Option.bind_eq_some_iff.mp hz
  obtain ⟨q1, q2, q3⟩ := k x hx z hk r h' hrr
  obtain ⟨m1, m2, m3⟩ := hm x hx
  obtain ⟨hB, hi, hnm⟩ := hf
  refine ⟨Nat.le_trans m1 q1, Nat.le_trans m2 q2, fun p e s m args below meth c D dA b H locs ls C hs hn hS hl hP hQ => ?_⟩
  intro T hT X
  have hsz := a_size X hT hs hn hP
  exact a_after (st := st) (va_runI (As := As.map (a_v b)) (b := b + a) ⟨C.1, C.2.1, C.2.2.1, C.2.2.2.1, C.2.2.2.2.1⟩ (m3 D dA b) ⟨a_callB C hB hdp ⟨rfl, rfl⟩, hnm, C.2.2.2.2.1 _ hi⟩ ⟨a_blind (b := b), fun U hU hW => ⟨rfl, by rw [hU]; exact hsz, by rw [hU]; exact hP, va_K.moved hW.alike C.2.2.2.2.2.2.2.2.2, fun w hw => gN_warm hW w hw (C.2.2.2.2.2.1 w hw)⟩⟩ rfl (by rw [List.length_map]; exact hlen) hl.1 (by simp [List.map_append, List.map_reverse, a_v]) (a_room hr) hd ⟨by show h.2.1 - n0 + _ ≤ h'.2.1 - n0; omega, by show h.2.2 - S0 + _ ≤ h'.2.2 - S0; omega⟩) m1 m2 hn hS hQ (fun H1 locs1 hP1 hQ1 => q3 p e s m args below meth c D dA b H1 locs1 ls C hs (Nat.le_trans hn m1) (Nat.le_trans hS m2) hl hP1 hQ1) T hT X
theorem s_callN {δ : Type} {d' index np a : Nat} {y : MethodName} {cc : ByteArray} {nL : Nat} {Ψ : δ → Option Value × aH} {ec : Option δ} {kf : δ → Option γ} {As : List Value} (hf : a_CN M.2.1 index y cc nL np) (hdp : d' + 1 ≤ d) (hd : decode M.1 pc = .ok (.invokespecial index, 3)) (hlen : As.length = np) (hr : (st.map (fun v => v.category)).sum ≤ 8)
    (hm : ∀ x, ec = some x → aMet l d' y cc nL none (.ref a :: As) h (Ψ x).1 (Ψ x).2) {stk : List Value} (hst : stk = As.reverse ++ .ref a :: st) (k : ∀ x, ec = some x → aS l d M n0 S0 Φ (pc + 3) lv ((Ψ x).1.toList ++ st) (Ψ x).2 (kf x)) : aS l d M n0 S0 Φ pc lv stk h (ec.bind kf) := by
  subst hst
  intro z hz r h' hrr
  obtain ⟨x, hx, hk⟩ := Option.bind_eq_some_iff.mp hz
  obtain ⟨q1, q2, q3⟩ := k x hx z hk r h' hrr
  obtain ⟨m1, m2, m3⟩ := hm x hx
  obtain ⟨⟨f1, f2, f3, f4, f5⟩, hi, hnm⟩ := hf
  refine ⟨Nat.le_trans m1 q1, Nat.le_trans m2 q2, fun p e s m args below meth c D dA b H locs ls C hs hn hS hl hP hQ => ?_⟩
  intro T hT X
  have hsz := a_size X hT hs hn hP
  exact a_after (st := st) (va_runIN (Ts := gT) (own := M.2.1) (host := "SwapBook") (bytes := cc) (maxL := nL) (n := np) (index := index) (As := As.map (a_v b)) (b := b + a) ⟨C.1, C.2.1, C.2.2.1, C.2.2.2.1, C.2.2.2.2.1⟩ (m3 D dA b) ⟨va_cnB np C.2.2.2.2.1 (gT_in (fun _ h => h) f2) rfl rfl rfl (C.2.2.2.2.2.1 _ f1) (C.2.2.2.2.1 _ f3) f5 ⟨by show d' + 1 ≤ d; exact hdp, by show 8 + (nL + 11) + 64 * d' ≤ 64 * d; omega⟩, hnm, C.2.2.2.2.1 _ hi⟩ ⟨a_blind (b := b), fun U hU hW => ⟨rfl, by rw [hU]; exact hsz, by rw [hU]; exact hP, va_K.moved hW.alike C.2.2.2.2.2.2.2.2.2, fun w hw => gN_warm hW w hw (C.2.2.2.2.2.1 w hw)⟩⟩ rfl (by rw [List.length_map]; exact hlen) hl.1 (by simp [List.map_append, List.map_reverse, a_v]) (a_room hr) hd ⟨by show h.2.1 - n0 + _ ≤ h'.2.1 - n0; omega, by show h.2.2 - S0 + _ ≤ h'.2.2 - S0; omega⟩) m1 m2 hn hS hQ (fun H1 locs1 hP1 hQ1 => q3 p e s m args below meth c D dA b H1 locs1 ls C hs (Nat.le_trans hn m1) (Nat.le_trans hS m2) hl hP1 hQ1) T hT X
theorem s_objInit {a : Nat} {index : Nat} (h1 : Cond.methodLink M.2.1 index objectInit ∈ gT) (h2 : Cond.instanceMethod objectInit ∈ gT) (h3 : Cond.code objectInit ⟨#[0xb1]⟩ 1 none ∈ gT) (hdp : 1 ≤ d) (hr : (st.map (fun v => v.category)).sum ≤ 8) (hd : decode M.1 pc = .ok (.invokespecial index, 3)) (k : aS l d M n0 S0 Φ (pc + 3) lv st h e) : aS l d M n0 S0 Φ pc lv (.ref a :: st) h e := fun z hz r h' hrr =>
  ⟨(k z hz r h' hrr).1, (k z hz r h' hrr).2.1, fun p e s m args below meth c D dA b H locs ls C hs hn hS hl hP hQ => W.objInit C.1 C.2.1 C.2.2.2.1 (C.2.2.2.2.1 _ h1) (C.2.2.2.2.1 _ h2) (C.2.2.2.2.1 _ h3) rfl (hl.1.trans C.2.2.1.symm) (a := b + a) (rest := st.map (a_v b)) rfl hd (by show 1 ≤ d; exact hdp) (by have := a_room (b := b) (m := m) (pc := pc) (ls := ls) (stk := []) hr; show _ ≤ 64 * d; have e0 : (F0 m pc ls ((Value.ref a :: st).map (a_v b))).monitorRoom = 0 := rfl; rw [e0]; have e1 : (F0 m pc ls ([] : List Value)).monitorRoom = 0 := rfl; rw [e1] at this; omega) ((k z hz r h' hrr).2.2 p e s m args below meth c D dA b H locs ls C hs hn hS hl hP hQ)⟩
/-- a method's body gives its contract -/
theorem a_meth {y : MethodName} {cc : ByteArray} {nL : Nat} {ret : Option FieldType} {ini : Bool} {av : List Value} (hy : plainName y.cls = true) (hini : ini = true → y.name = "<init>") (hsl : ∀ b, (lg_sl (av.map (a_v b))).length ≤ nL) (body : aS l d (cc, y.cls, nL, ret, ini) h.2.1 h.2.2 Φ 0 (lv_args 0 av) [] h e) : ∀ x, e = some x → ∀ r h', Φ x r h' → aMet l d y cc nL ret av h r h' := by
  intro x hx r h' hr
  obtain ⟨q1, q2, q3⟩ := body x hx r h' hr
  refine ⟨q1, q2, fun D dA b => ?_⟩
  refine Met.ofW (cc := cc) (maxL := nL) (ret := ret) hy rfl ?_
  intro p e s m args below meth c s₁ B hml hv
  obtain ⟨rfl, hsz, hP, hK, hN⟩ := hv
  have hts := atoms_spec (ws := .code y cc nL ret :: gT) B.pre
  have hl := lv_entry (av.map (a_v b)) (n := nL) (hsl b)
  rw [lg_entry_eq]
  generalize (lg_sl (av.map (a_v b)) ++ List.replicate (nL - (lg_sl (av.map (a_v b))).length) Slot.unset).toArray = ls at hl ⊢
  rw [a_args] at hl
  have key := q3 p e s m (av.map (a_v b)).toArray below meth c D dA b s.heap [] ls ⟨B.exec, B.bytes, hml, findClass_of_methodNamed B.named, fun w hw => hts w (List.mem_cons_of_mem _ hw), hN, B.notSynchronized, B.returns, fun hi => (name_of_methodNamed B.named B.method).1.trans (hini hi), hK⟩ hsz (Nat.le_refl _) (Nat.le_refl _) hl hP va_S.rf
  rw [Nat.sub_self, Nat.sub_self] at key
  exact key
/-- loops -/
def a_loop {σ ξ : Type} (body : σ → Option (σ ⊕ ξ)) : Nat → σ → Option ξ
  | 0, _ => none
  | n + 1, s => (body s).bind fun q => match q with
    | .inl s' => a_loop body n s'
    | .inr x => some x
def a_LΦ {σ ξ : Type} (Ψ : ξ → Option Value → aH → Prop) (l : Launch) (d : Nat) (M : aM) (n0 S0 pc : Nat) (lvf : σ → List (Nat × Value)) (stf : σ → List Value) (hf : σ → aH) (q : σ ⊕ ξ) (r : Option Value) (h' : aH) : Prop := match q with
  | .inl s' => aEv l d M n0 S0 pc (lvf s') (stf s') (hf s') r h'
  | .inr x => Ψ x r h'
theorem s_loop {σ ξ : Type} {Ψ : ξ → Option Value → aH → Prop} {body : σ → Option (σ ⊕ ξ)} {lvf : σ → List (Nat × Value)} {stf : σ → List Value} {hf : σ → aH} (hb : ∀ s, aS l d M n0 S0 (a_LΦ Ψ l d M n0 S0 pc lvf stf hf) pc (lvf s) (stf s) (hf s) (body s)) : ∀ (n : Nat) (s : σ), aS l d M n0 S0 Ψ pc (lvf s) (stf s) (hf s) (a_loop body n s)
  | 0, s => fun z hz => by cases hz
  | n + 1, s => fun z hz r h' hr => by
    obtain ⟨q, hq, hk⟩ := Option.bind_eq_some_iff.mp hz
    refine hb s q hq r h' ?_
    cases q with
    | inl s' => exact s_loop hb n s' z hk r h' hr
    | inr x => cases hk; exact hr
/-- the frame is one that is known to go on -/
theorem s_ev {x : γ} (hΦ : ∀ r h', Φ x r h' → aEv l d M n0 S0 pc lv st h r h') : aS l d M n0 S0 Φ pc lv st h (some x) := fun z hz r h' hr => by cases hz; exact hΦ r h' hr
theorem s_bind {ξ : Type} {Ψ : ξ → Option Value → aH → Prop} {eL : Option ξ} {kf : ξ → Option γ} (hL : aS l d M n0 S0 Ψ pc lv st h eL) (hk : ∀ x z r h', kf x = some z → Φ z r h' → Ψ x r h') : aS l d M n0 S0 Φ pc lv st h (eL.bind kf) := fun z hz r h' hr => by
  obtain ⟨x, hx, hkx⟩ := Option.bind_eq_some_iff.mp hz
  exact hL x hx r h' (hk x z r h' hkx hr)
end aCalls
