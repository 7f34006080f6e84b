/-! THE RULES ONCE MORE, for frames that know of the string -/
def zEv (zz : zA) (l : Launch) (d : Nat) (M : aM) (n0 S0 : Nat) (pc : Nat) (lv : List (Nat × Value)) (st : List Value) (h : aH) (r : Option Value) (h' : aH) : Prop :=
  h.2.1 ≤ h'.2.1 ∧ h.2.2 ≤ h'.2.2 ∧ ∀ (p : Program) (e : Env) (s : State) (m : MethodId) (args : Array Value) (below : List Frame) (meth : Method) (c : Code) (D : va_G) (dA : Nat → ClassId) (b : Nat) (H : Heap) (locs : List Loc) (ls : Array Slot),
    zZ zz b s → a_Cx p s m args meth c D dA M → s.heap.size = b + n0 → n0 ≤ h.2.1 → S0 ≤ h.2.2 → lv_has ls M.2.2.1 (lv.map (fun q => (q.1, a_v b q.2))) → va_P D vwCl (a_w b dA h) H → va_S (fun q => b ≤ q) s.heap H locs →
    W p l e (a_R d (h'.2.1 - n0) (h'.2.2 - S0)) s m args below meth c H locs (h.2.1 - n0) (h.2.2 - S0) (MQ below (a_Q b dA D r h') args s (h'.2.1 - n0) (h'.2.2 - S0) (fun q => b ≤ q)) (F0 m pc ls (st.map (a_v b)))
def zJ (zz : zA) (l : Launch) (d : Nat) (M : aM) (n0 S0 : Nat) {γ : Type} (Φ : γ → Option Value → aH → Prop) (pc : Nat) (lv : List (Nat × Value)) (st : List Value) (h : aH) (e : Option γ) : Prop :=
  ∀ x, e = some x → ∀ r h', Φ x r h' → zEv zz l d M n0 S0 pc lv st h r h'
def zPc (zz : zA) (D : va_G) (dA : Nat → ClassId) (b : Nat) (h : aH) (av : List Value) : Array Value → State → Prop := va_Pc (av.map (a_v b)) (fun U => U.heap.size = b + h.2.1 ∧ va_P D vwCl (a_w b dA h) U.heap ∧ va_K D vwCl (a_ty dA) U ∧ (∀ w ∈ gN, va_Nw w U) ∧ zZ zz b U)
def zMet (zz : zA) (l : Launch) (d : Nat) (y : MethodName) (cc : ByteArray) (nL : Nat) (ret : Option FieldType) (av : List Value) (h : aH) (r : Option Value) (h' : aH) : Prop :=
  h.2.1 ≤ h'.2.1 ∧ h.2.2 ≤ h'.2.2 ∧ ∀ (D : va_G) (dA : Nat → ClassId) (b : Nat), Met l y (.code y cc nL ret :: gT) (a_R d (h'.2.1 - h.2.1) (h'.2.2 - h.2.2)) (zPc zz D dA b h av) (a_Q b dA D r h') (h'.2.1 - h.2.1) (h'.2.2 - h.2.2) (fun q => b ≤ q)
theorem z_blind {zz : zA} {D : va_G} {dA : Nat → ClassId} {b : Nat} {h : aH} {av : List Value} : FrameBlind (zPc zz D dA b h av) := fun a U g mk q => by
  obtain ⟨q0, q1, qP, qK, qN, qZ⟩ := q
  exact ⟨q0, q1, qP, va_K.moved (u := U) (U := U.calling g mk a) (Vm.Alike.refl U.vm) qK, fun w hw => va_Nw.same (u := U) (U := U.calling g mk a) (gN_on w hw) rfl (qN w hw), (zZ_blind (av := a.toList) (a := zz) (b := b) a U g mk ⟨rfl, qZ⟩).2⟩
section zaRules
variable {l : Launch} {d : Nat} {M : aM} {n0 S0 : Nat} {γ : Type} {Φ : γ → Option Value → aH → Prop} {pc : Nat} {lv : List (Nat × Value)} {st : List Value} {h : aH} {e e1 e2 : Option γ} {zz : zA}
theorem za_step {pc2 : Nat} {st2 : List Value} (f : ∀ (p : Program) (e : Env) (R : Room) (s : State) (m : MethodId) (args : Array Value) (below : List Frame) (meth : Method) (c : Code) (D : va_G) (dA : Nat → ClassId) (b : Nat) (H : Heap) (locs : List Loc) (cells slots : Nat) (Q : State → Prop) (ls : Array Slot),
      a_Cx p s m args meth c D dA M → lv_has ls M.2.2.1 (lv.map (fun q => (q.1, a_v b q.2))) → va_P D vwCl (a_w b dA h) H → W p l e R s m args below meth c H locs cells slots Q (F0 m pc2 ls (st2.map (a_v b))) → W p l e R s m args below meth c H locs cells slots Q (F0 m pc ls (st.map (a_v b))))
    (k : zJ zz l d M n0 S0 Φ pc2 lv st2 h e) : zJ zz l d M n0 S0 Φ pc lv st h e := fun z hz r h' hr =>
  ⟨(k z hz r h' hr).1, (k z hz r h' hr).2.1, fun p e s m args below meth c D dA b H locs ls hZ C hs hn hS hl hP hQ => f p e _ s m args below meth c D dA b H locs _ _ _ ls C hl hP ((k z hz r h' hr).2.2 p e s m args below meth c D dA b H locs ls hZ C hs hn hS hl hP hQ)⟩
theorem za_stepL {pc2 : Nat} {st2 : List Value} {lv' : List (Nat × Value)} (f : ∀ (p : Program) (e : Env) (R : Room) (s : State) (m : MethodId) (args : Array Value) (below : List Frame) (meth : Method) (c : Code) (D : va_G) (dA : Nat → ClassId) (b : Nat) (H : Heap) (locs : List Loc) (cells slots : Nat) (Q : State → Prop) (ls : Array Slot),
      a_Cx p s m args meth c D dA M → lv_has ls M.2.2.1 (lv.map (fun q => (q.1, a_v b q.2))) → (∀ ls' : Array Slot, lv_has ls' M.2.2.1 (lv'.map (fun q => (q.1, a_v b q.2))) → W p l e R s m args below meth c H locs cells slots Q (F0 m pc2 ls' (st2.map (a_v b)))) → W p l e R s m args below meth c H locs cells slots Q (F0 m pc ls (st.map (a_v b))))
    (k : zJ zz l d M n0 S0 Φ pc2 lv' st2 h e) : zJ zz l d M n0 S0 Φ pc lv st h e := fun z hz r h' hr =>
  ⟨(k z hz r h' hr).1, (k z hz r h' hr).2.1, fun p e s m args below meth c D dA b H locs ls hZ C hs hn hS hl hP hQ => f p e _ s m args below meth c D dA b H locs _ _ _ ls C hl (fun ls' hl' => (k z hz r h' hr).2.2 p e s m args below meth c D dA b H locs ls' hZ C hs hn hS hl' hP hQ)⟩
theorem zs_sub (ks : List Nat) {lv' : List (Nat × Value)} (hs : lv_pick lv ks = lv') (k : zJ zz l d M n0 S0 Φ pc lv' st h e) : zJ zz l d M n0 S0 Φ pc lv st h e := fun z hz r h' hr =>
  ⟨(k z hz r h' hr).1, (k z hz r h' hr).2.1, fun p e s m args below meth c D dA b H locs ls hZ C hs0 hn hS hl hP hQ => (k z hz r h' hr).2.2 p e s m args below meth c D dA b H locs ls hZ C hs0 hn hS (lv_sub hl ks (by subst hs; simp only [lv_pick, List.map_filterMap, List.getElem?_map])) hP hQ⟩
theorem zs_iconst {n : Int} {v : Int32} (hd : decode M.1 pc = .ok (.iconst n, 1)) (hv : Int32.ofInt n = v) (k : zJ zz l d M n0 S0 Φ (pc + 1) lv (.int v :: st) h e) : zJ zz l d M n0 S0 Φ pc lv (st) h e := za_step (fun p e R s m args below meth c D dA b H locs cells slots Q ls C hl hP k => lv_iconst (v := v) C.1 C.2.1 hd hv k) k
theorem zs_bipush {n : Int} {v : Int32} (hd : decode M.1 pc = .ok (.bipush n, 2)) (hv : (Int8.ofInt n).toInt32 = v) (k : zJ zz l d M n0 S0 Φ (pc + 2) lv (.int v :: st) h e) : zJ zz l d M n0 S0 Φ pc lv (st) h e := za_step (fun p e R s m args below meth c D dA b H locs cells slots Q ls C hl hP k => lv_bipush (v := v) C.1 C.2.1 hd hv k) k
theorem zs_sipush {n : Int} {v : Int32} (hd : decode M.1 pc = .ok (.sipush n, 3)) (hv : (Int16.ofInt n).toInt32 = v) (k : zJ zz l d M n0 S0 Φ (pc + 3) lv (.int v :: st) h e) : zJ zz l d M n0 S0 Φ pc lv (st) h e := za_step (fun p e R s m args below meth c D dA b H locs cells slots Q ls C hl hP k => lv_sipush (v := v) C.1 C.2.1 hd hv k) k
theorem zs_lconst {n : Fin 2} {v : Int64} (hd : decode M.1 pc = .ok (.lconst n, 1)) (hv : Int64.ofNat (n : Nat) = v) (k : zJ zz l d M n0 S0 Φ (pc + 1) lv (.long v :: st) h e) : zJ zz l d M n0 S0 Φ pc lv (st) h e := za_step (fun p e R s m args below meth c D dA b H locs cells slots Q ls C hl hP k => lv_lconst (v := v) C.1 C.2.1 hd hv k) k
theorem zs_iload_n (k0 : Nat) {k : Fin 4} {x : Int32} (hd : decode M.1 pc = .ok (.iload_n k, 1)) (hk : lv[k0]? = some ((k : Nat), .int x)) (k : zJ zz l d M n0 S0 Φ (pc + 1) lv (.int x :: st) h e) : zJ zz l d M n0 S0 Φ pc lv (st) h e := za_step (fun p e R s m args below meth c D dA b H locs cells slots Q ls C hl hP k => lv_iload_n C.1 C.2.1 hd rfl (a_lv_at hl hk) k) k
theorem zs_iload (k0 : Nat) {i : Nat} {x : Int32} (hd : decode M.1 pc = .ok (.iload i, 2)) (hk : lv[k0]? = some (i, .int x)) (k : zJ zz l d M n0 S0 Φ (pc + 2) lv (.int x :: st) h e) : zJ zz l d M n0 S0 Φ pc lv (st) h e := za_step (fun p e R s m args below meth c D dA b H locs cells slots Q ls C hl hP k => lv_iload C.1 C.2.1 hd (a_lv_at hl hk) k) k
theorem zs_lload_n (k0 : Nat) {k : Fin 4} {x : Int64} (hd : decode M.1 pc = .ok (.lload_n k, 1)) (hk : lv[k0]? = some ((k : Nat), .long x)) (k : zJ zz l d M n0 S0 Φ (pc + 1) lv (.long x :: st) h e) : zJ zz l d M n0 S0 Φ pc lv (st) h e := za_step (fun p e R s m args below meth c D dA b H locs cells slots Q ls C hl hP k => lv_lload_n C.1 C.2.1 hd rfl (a_lv_at hl hk) k) k
theorem zs_aload_n (k0 : Nat) {k : Fin 4} {x : Nat} (hd : decode M.1 pc = .ok (.aload_n k, 1)) (hk : lv[k0]? = some ((k : Nat), .ref x)) (k : zJ zz l d M n0 S0 Φ (pc + 1) lv (.ref x :: st) h e) : zJ zz l d M n0 S0 Φ pc lv (st) h e := za_step (fun p e R s m args below meth c D dA b H locs cells slots Q ls C hl hP k => lv_aload_n C.1 C.2.1 hd rfl (a_lv_at hl hk) k) k
theorem zs_dup {va : Value} (hd : decode M.1 pc = .ok (.dup, 1)) (hc : va.category = 1) (k : zJ zz l d M n0 S0 Φ (pc + 1) lv (va :: va :: st) h e) : zJ zz l d M n0 S0 Φ pc lv (va :: st) h e := za_step (fun p e R s m args below meth c D dA b H locs cells slots Q ls C hl hP k => lv_dup C.1 C.2.1 hd ((a_v_cat b va).trans hc) k) k
theorem zs_istore_n {k : Fin 4} {x : Int32} {lv' : List (Nat × Value)} (hd : decode M.1 pc = .ok (.istore_n k, 1)) (hn : (k : Nat) < M.2.2.1) (hs : ((k : Nat), Value.int x) :: lv.filter (fun q => !(q.1 == (k : Nat)) && !(q.1 + 1 == (k : Nat) && q.2.category == 2)) = lv') (k : zJ zz l d M n0 S0 Φ (pc + 1) lv' st h e) : zJ zz l d M n0 S0 Φ pc lv (.int x :: st) h e := za_stepL (fun p e R s m args below meth c D dA b H locs cells slots Q ls C hl k => lv_istore_n C.1 C.2.1 hd rfl hl hn (a_lv_st hs) k) k
theorem zs_istore {i : Nat} {x : Int32} {lv' : List (Nat × Value)} (hd : decode M.1 pc = .ok (.istore i, 2)) (hn : i < M.2.2.1) (hs : (i, Value.int x) :: lv.filter (fun q => !(q.1 == i) && !(q.1 + 1 == i && q.2.category == 2)) = lv') (k : zJ zz l d M n0 S0 Φ (pc + 2) lv' st h e) : zJ zz l d M n0 S0 Φ pc lv (.int x :: st) h e := za_stepL (fun p e R s m args below meth c D dA b H locs cells slots Q ls C hl k => lv_istore C.1 C.2.1 hd hl hn (a_lv_st hs) k) k
theorem zs_lstore_n {k : Fin 4} {x : Int64} {lv' : List (Nat × Value)} (hd : decode M.1 pc = .ok (.lstore_n k, 1)) (hn : (k : Nat) + 1 < M.2.2.1) (hs : ((k : Nat), Value.long x) :: lv.filter (fun q => !(q.1 == (k : Nat)) && (!(q.1 == (k : Nat) + 1) && !(q.1 + 1 == (k : Nat) && q.2.category == 2))) = lv') (k : zJ zz l d M n0 S0 Φ (pc + 1) lv' st h e) : zJ zz l d M n0 S0 Φ pc lv (.long x :: st) h e := za_stepL (fun p e R s m args below meth c D dA b H locs cells slots Q ls C hl k => lv_lstore_n C.1 C.2.1 hd rfl hl hn (a_lv_st2 hs) k) k
theorem zs_iinc (k0 : Nat) {i : Nat} {n : Int} {x v : Int32} {lv' : List (Nat × Value)} (hd : decode M.1 pc = .ok (.iinc i n, 3)) (hk : lv[k0]? = some (i, .int x)) (hv : Int32.ofInt n = v) (hn : i < M.2.2.1) (hs : (i, Value.int (x + v)) :: lv.filter (fun q => !(q.1 == i) && !(q.1 + 1 == i && q.2.category == 2)) = lv') (k : zJ zz l d M n0 S0 Φ (pc + 3) lv' st h e) : zJ zz l d M n0 S0 Φ pc lv st h e := za_stepL (fun p e R s m args below meth c D dA b H locs cells slots Q ls C hl k => lv_iinc (k := k0) (x := x) (v := x + v) C.1 C.2.1 hd hl (by rw [List.getElem?_map, hk]; rfl) (by rw [hv]) hn (a_lv_st (v := .int (x + v)) hs) k) k
theorem zs_goto {off : Int} {tgt : Nat} (hd : decode M.1 pc = .ok (.goto off, 3)) (ht : (pc : Int) + off = (tgt : Int)) (k : zJ zz l d M n0 S0 Φ tgt lv st h e) : zJ zz l d M n0 S0 Φ pc lv st h e := za_step (fun p e R s m args below meth c D dA b H locs cells slots Q ls C hl hP k => lv_goto C.1 C.2.1 hd ht k) k
theorem zs_icmp_ne {x y : Int32} {off : Int} {tgt : Nat} (hd : decode M.1 pc = .ok (.if_icmp .ne off, 3)) (ht : (pc : Int) + off = (tgt : Int)) (k1 : x = y → zJ zz l d M n0 S0 Φ (pc + 3) lv st h e1) (k2 : ¬ x = y → zJ zz l d M n0 S0 Φ tgt lv st h e2) : zJ zz l d M n0 S0 Φ pc lv (.int y :: .int x :: st) h (if x = y then e1 else e2) := by
  intro z hz r h' hr
  by_cases cc : x = y
  · rw [if_pos cc] at hz
    have q := k1 cc z hz r h' hr
    exact ⟨q.1, q.2.1, fun p e s m args below meth c D dA b H locs ls hZ C hs hn hS hl hP hQ => lv_icmp_ne C.1 C.2.1 hd ht (fun no => absurd cc no) (fun _ => q.2.2 p e s m args below meth c D dA b H locs ls hZ C hs hn hS hl hP hQ)⟩
  · rw [if_neg cc] at hz
    have q := k2 cc z hz r h' hr
    exact ⟨q.1, q.2.1, fun p e s m args below meth c D dA b H locs ls hZ C hs hn hS hl hP hQ => lv_icmp_ne C.1 C.2.1 hd ht (fun _ => q.2.2 p e s m args below meth c D dA b H locs ls hZ C hs hn hS hl hP hQ) (fun yes => absurd yes cc)⟩
theorem zs_icmp_ge {x y : Int32} {off : Int} {tgt : Nat} (hd : decode M.1 pc = .ok (.if_icmp .ge off, 3)) (ht : (pc : Int) + off = (tgt : Int)) (k1 : y ≤ x → zJ zz l d M n0 S0 Φ tgt lv st h e1) (k2 : ¬ y ≤ x → zJ zz l d M n0 S0 Φ (pc + 3) lv st h e2) : zJ zz l d M n0 S0 Φ pc lv (.int y :: .int x :: st) h (if y ≤ x then e1 else e2) := by
  intro z hz r h' hr
  by_cases cc : y ≤ x
  · rw [if_pos cc] at hz
    have q := k1 cc z hz r h' hr
    exact ⟨q.1, q.2.1, fun p e s m args below meth c D dA b H locs ls hZ C hs hn hS hl hP hQ => lv_icmp_ge C.1 C.2.1 hd ht (fun _ => q.2.2 p e s m args below meth c D dA b H locs ls hZ C hs hn hS hl hP hQ) (fun no => absurd cc no)⟩
  · rw [if_neg cc] at hz
    have q := k2 cc z hz r h' hr
    exact ⟨q.1, q.2.1, fun p e s m args below meth c D dA b H locs ls hZ C hs hn hS hl hP hQ => lv_icmp_ge C.1 C.2.1 hd ht (fun yes => absurd yes cc) (fun _ => q.2.2 p e s m args below meth c D dA b H locs ls hZ C hs hn hS hl hP hQ)⟩
end zaRules
section zaHeap
variable {l : Launch} {d : Nat} {M : aM} {n0 S0 : Nat} {γ : Type} {Φ : γ → Option Value → aH → Prop} {pc : Nat} {lv : List (Nat × Value)} {st : List Value} {h h2 : aH} {e e1 e2 : Option γ} {zz : zA}
theorem zs_get {index ci k0 a : Nat} {fs : List Value} {v : Value} (hf : a_FL M.2.1 index ci k0) (hd : decode M.1 pc = .ok (.getfield index, 3)) (hc : h.1 a = .inr (ci, fs)) (ha : a < h.2.1) (hv : fs[k0]? = some v) (k : zJ zz l d M n0 S0 Φ (pc + 3) lv (v :: st) h e) : zJ zz l d M n0 S0 Φ pc lv (.ref a :: st) h e := by
  obtain ⟨C0, T, N, h1, h2, h3, h4⟩ := hf
  exact za_step (fun p e R s m args below meth c D dA b H locs cells slots Q ls C hl hP k => va_get (ws := a_w b dA h) C.1 C.2.1 C.2.2.2.2.1 h3 C.2.2.2.1 C.2.2.2.2.2.2.2.2.2 hP a (by rw [a_w_at ha, hc]; rfl) h1 k0 h2 (C.2.2.2.2.1 _ h4) (fun _ x => x) (by rw [List.getElem?_map, hv]; rfl) hd k) k
theorem za_stepH {pc2 : Nat} {st2 : List Value} (hz : h2.2 = h.2) (f : ∀ (p : Program) (e : Env) (R : Room) (s : State) (m : MethodId) (args : Array Value) (below : List Frame) (meth : Method) (c : Code) (D : va_G) (dA : Nat → ClassId) (b : Nat) (H : Heap) (locs : List Loc) (cells slots : Nat) (Q : State → Prop) (ls : Array Slot),
      a_Cx p s m args meth c D dA M → lv_has ls M.2.2.1 (lv.map (fun q => (q.1, a_v b q.2))) → va_P D vwCl (a_w b dA h) H → va_S (fun q => b ≤ q) s.heap H locs → R.frames = d → R.locals = 64 * d → (∀ (H1 : Heap) (locs1 : List Loc), va_P D vwCl (a_w b dA h2) H1 → va_S (fun q => b ≤ q) s.heap H1 locs1 → W p l e R s m args below meth c H1 locs1 cells slots Q (F0 m pc2 ls (st2.map (a_v b)))) → W p l e R s m args below meth c H locs cells slots Q (F0 m pc ls (st.map (a_v b))))
    (k : zJ zz l d M n0 S0 Φ pc2 lv st2 h2 e) : zJ zz l d M n0 S0 Φ pc lv st h e := fun z hzz r h' hr => by
  have q := k z hzz r h' hr
  obtain ⟨q1, q2, q3⟩ := q
  rw [hz] at q1 q2
  refine ⟨q1, q2, fun p e s m args below meth c D dA b H locs ls hZ C hs hn hS hl hP hQ => ?_⟩
  refine f p e _ s m args below meth c D dA b H locs _ _ _ ls C hl hP hQ rfl rfl (fun H1 locs1 hP1 hQ1 => ?_)
  have q4 := q3 p e s m args below meth c D dA b H1 locs1 ls hZ C hs (by rw [hz]; exact hn) (by rw [hz]; exact hS) hl hP1 hQ1
  rw [hz] at q4
  exact q4
theorem zs_put {index ci k0 a : Nat} {ty : FieldType} {fs : List Value} {v : Value} (hf : a_FW M.2.1 index ci k0 ty false) (hd : decode M.1 pc = .ok (.putfield index, 3)) (hc : h.1 a = .inr (ci, fs)) (ha : a < h.2.1) (hl0 : k0 < fs.length) (hn : ∀ b, narrow ty (a_v b v) = a_v b v) (hfit : ∀ b, fits ty (a_v b v) = true) (he : a_up h a (.inr (ci, fs.set k0 v)) = h2) (k : zJ zz l d M n0 S0 Φ (pc + 3) lv st h2 e) : zJ zz l d M n0 S0 Φ pc lv (v :: .ref a :: st) h e := by
  obtain ⟨C0, T, N, ty0, h1, h3, h4, h5, h6, h7, h8, h9, -⟩ := hf
  subst he
  refine za_stepH (h := h) (h2 := a_up h a (.inr (ci, fs.set k0 v))) rfl (fun p e R s m args below meth c D dA b H locs cells slots Q ls C hl hP hQ _ _ k => va_put (ws := a_w b dA h) (v := a_v b v) (ty := ty) C.1 C.2.1 C.2.2.2.2.1 h4 ty0 h6 h7 C.2.2.2.1 C.2.2.2.2.2.2.2.2.2 hP (a_D b dA h) hQ a (by rw [a_w_at ha, hc]; rfl) h1 k0 h3 (C.2.2.2.2.1 _ h5) (fun _ x => x) h8 (by rw [h6 k0 h3, h9]) (hn b) (hfit b) (by rw [List.length_map]; exact hl0) hd (fun H1 locs1 hP1 _ hQ1 => k H1 locs1 ?_ hQ1)) k
  have e1 : (b + a, (Sum.inr (ci, (fs.map (a_v b)).set k0 (a_v b v)) : va_E)) = (b + a, a_e b dA (.inr (ci, fs.set k0 v))) := by
    show _ = (b + a, (Sum.inr (ci, (fs.set k0 v).map (a_v b)) : va_E))
    rw [List.map_set]
  rw [e1, a_set] at hP1
  exact hP1
theorem zs_putF {index ci k0 a : Nat} {ty : FieldType} {fs : List Value} {v : Value} (hi : M.2.2.2.2 = true) (hf : a_FW M.2.1 index ci k0 ty true) (hd : decode M.1 pc = .ok (.putfield index, 3)) (hc : h.1 a = .inr (ci, fs)) (ha : a < h.2.1) (hl0 : k0 < fs.length) (hn : ∀ b, narrow ty (a_v b v) = a_v b v) (hfit : ∀ b, fits ty (a_v b v) = true) (he : a_up h a (.inr (ci, fs.set k0 v)) = h2) (k : zJ zz l d M n0 S0 Φ (pc + 3) lv st h2 e) : zJ zz l d M n0 S0 Φ pc lv (v :: .ref a :: st) h e := by
  obtain ⟨C0, T, N, ty0, h1, h3, h4, h5, h6, h7, h8, h9, h10⟩ := hf
  subst he
  refine za_stepH (h := h) (h2 := a_up h a (.inr (ci, fs.set k0 v))) rfl (fun p e R s m args below meth c D dA b H locs cells slots Q ls C hl hP hQ _ _ k => va_putF (ws := a_w b dA h) (v := a_v b v) (ty := ty) C.1 C.2.1 C.2.2.2.2.1 h4 ty0 h6 h7 C.2.2.2.1 C.2.2.2.2.2.2.2.2.2 hP (a_D b dA h) hQ a (by rw [a_w_at ha, hc]; rfl) h1 k0 h3 (C.2.2.2.2.1 _ h5) (fun _ x => x) h8 (C.2.2.2.2.2.2.2.2.1 hi) (h10 rfl) (by rw [h6 k0 h3, h9]) (hn b) (hfit b) (by rw [List.length_map]; exact hl0) hd (fun H1 locs1 hP1 _ hQ1 => k H1 locs1 ?_ hQ1)) k
  have e1 : (b + a, (Sum.inr (ci, (fs.map (a_v b)).set k0 (a_v b v)) : va_E)) = (b + a, a_e b dA (.inr (ci, fs.set k0 v))) := by
    show _ = (b + a, (Sum.inr (ci, (fs.set k0 v).map (a_v b)) : va_E))
    rw [List.map_set]
  rw [e1, a_set] at hP1
  exact hP1
theorem zs_last {a n : Nat} {f : Nat → Int64} {i : Int32} {x : Int64} (hd : decode M.1 pc = .ok (.lastore, 1)) (hc : h.1 a = .inl (1, n, .inr (.inl f))) (ha : a < h.2.1) (he : a_up h a (.inl (1, n, .inr (.inl (vp_updL f i.toNatClampNeg x)))) = h2) (k : zJ zz l d M n0 S0 Φ (pc + 1) lv st h2 e) : zJ zz l d M n0 S0 Φ pc lv (.long x :: .int i :: .ref a :: st) h (g_in i n e) := fun z hz => by
  subst he
  refine za_stepH (e := e) (h := h) (h2 := a_up h a (.inl (1, n, .inr (.inl (vp_updL f i.toNatClampNeg x))))) rfl (fun p e R s m args below meth c D dA b H locs cells slots Q ls C hl hP hQ _ _ k => va_last (ws := a_w b dA h) C.1 C.2.1 C.2.2.2.2.2.2.2.2.2 hP (a_D b dA h) hQ a 1 (by rw [a_w_at ha, hc]; rfl) rfl (g_in_some hz).1 hd (fun H1 locs1 hP1 _ hQ1 => k H1 locs1 ?_ hQ1)) k z (g_in_some hz).2
  rw [show (b + a, (Sum.inl (dA 1, n, Sum.inr (Sum.inl (vp_updL f i.toNatClampNeg x))) : va_E)) = (b + a, a_e b dA (.inl (1, n, .inr (.inl (vp_updL f i.toNatClampNeg x))))) from rfl, a_set] at hP1
  exact hP1
theorem zs_vret {x : γ} (hd : decode M.1 pc = .ok (.return_, 1)) (hr0 : M.2.2.2.1 = none) (hΦ : ∀ r h', Φ x r h' → r = none ∧ h' = h) : zJ zz l d M n0 S0 Φ pc lv [] h (some x) := by
  intro z hz r h' hr
  cases hz
  obtain ⟨rfl, rfl⟩ := hΦ r h' hr
  refine ⟨Nat.le_refl _, Nat.le_refl _, fun p e s m args below meth c D dA b H locs ls hZ C hs hn hS hl hP hQ => ?_⟩
  intro T hT X
  have hz := a_size X hT hs hn hP
  exact W.vret C.1 C.2.1 (C.2.2.2.2.2.2.2.1.trans hr0) (fun t ht hW => ⟨⟨rfl, by rw [ht]; exact hz, by rw [ht]; exact hP⟩, hQ.F ht⟩) hQ.2.2 hd (hlocks := C.2.2.2.2.2.2.1) T hT X
end zaHeap
section zaCalls
variable {l : Launch} {d : Nat} {M : aM} {n0 S0 : Nat} {γ : Type} {Φ : γ → Option Value → aH → Prop} {pc : Nat} {lv : List (Nat × Value)} {st : List Value} {h h2 : aH} {e e1 e2 : Option γ} {zz : zA}
theorem zs_callS {δ : Type} {d' index np : Nat} {y : MethodName} {cc : ByteArray} {nL : Nat} {ret : Option FieldType} {Ψ : δ → Option Value × aH} {ec : Option δ} {kf : δ → Option γ} {As : List Value} (hf : a_CS M.2.1 index y cc nL ret np) (hdp : d' + 1 ≤ d) (hd : decode M.1 pc = .ok (.invokestatic index, 3)) (hlen : As.length = np) (hr : (st.map (fun v => v.category)).sum ≤ 8)
    (hm : ∀ x, ec = some x → aMet l d' y cc nL ret As h (Ψ x).1 (Ψ x).2) {stk : List Value} (hst : stk = As.reverse ++ st) (k : ∀ x, ec = some x → zJ zz l d M n0 S0 Φ (pc + 3) lv ((Ψ x).1.toList ++ st) (Ψ x).2 (kf x)) : zJ zz l d M n0 S0 Φ pc lv stk h (ec.bind kf) := by
  subst hst
  intro z hz r h' hrr
  obtain ⟨x, hx, hk⟩ := Option.bind_eq_some_iff.mp hz
  obtain ⟨q1, q2, q3⟩ := k x hx z hk r h' hrr
  obtain ⟨m1, m2, m3⟩ := hm x hx
  obtain ⟨hB, hi⟩ := hf
  refine ⟨Nat.le_trans m1 q1, Nat.le_trans m2 q2, fun p e s m args below meth c D dA b H locs ls hZ C hs hn hS hl hP hQ => ?_⟩
  intro T hT X
  have hsz := a_size X hT hs hn hP
  exact a_after (st := st) (va_runS (As := As.map (a_v b)) ⟨C.1, C.2.1, C.2.2.1, C.2.2.2.1, C.2.2.2.2.1⟩ (m3 D dA b) ⟨a_callB C hB hdp ⟨rfl, rfl⟩, C.2.2.2.2.1 _ hi⟩ ⟨a_blind (b := b), fun U hU hW => ⟨rfl, by rw [hU]; exact hsz, by rw [hU]; exact hP, va_K.moved hW.alike C.2.2.2.2.2.2.2.2.2, fun w hw => gN_warm hW w hw (C.2.2.2.2.2.1 w hw)⟩⟩ rfl (by rw [List.length_map]; exact hlen) hl.1 (by simp [List.map_append, List.map_reverse]) (a_room hr) hd ⟨by show h.2.1 - n0 + _ ≤ h'.2.1 - n0; omega, by show h.2.2 - S0 + _ ≤ h'.2.2 - S0; omega⟩) m1 m2 hn hS hQ (fun H1 locs1 hP1 hQ1 => q3 p e s m args below meth c D dA b H1 locs1 ls hZ C hs (Nat.le_trans hn m1) (Nat.le_trans hS m2) hl hP1 hQ1) T hT X
theorem zs_callI {δ : Type} {d' index np a : Nat} {y : MethodName} {cc : ByteArray} {nL : Nat} {Ψ : δ → Option Value × aH} {ec : Option δ} {kf : δ → Option γ} {As : List Value} (hf : a_CI M.2.1 index y cc nL np) (hdp : d' + 1 ≤ d) (hd : decode M.1 pc = .ok (.invokespecial index, 3)) (hlen : As.length = np) (hr : (st.map (fun v => v.category)).sum ≤ 8)
    (hm : ∀ x, ec = some x → aMet l d' y cc nL none (.ref a :: As) h (Ψ x).1 (Ψ x).2) {stk : List Value} (hst : stk = As.reverse ++ .ref a :: st) (k : ∀ x, ec = some x → zJ zz l d M n0 S0 Φ (pc + 3) lv ((Ψ x).1.toList ++ st) (Ψ x).2 (kf x)) : zJ zz l d M n0 S0 Φ pc lv stk h (ec.bind kf) := by
  subst hst
  intro z hz r h' hrr
  obtain ⟨x, hx, hk⟩ := Option.bind_eq_some_iff.mp hz
  obtain ⟨q1, q2, q3⟩ := k x hx z hk r h' hrr
  obtain ⟨m1, m2, m3⟩ := hm x hx
  obtain ⟨hB, hi, hnm⟩ := hf
  refine ⟨Nat.le_trans m1 q1, Nat.le_trans m2 q2, fun p e s m args below meth c D dA b H locs ls hZ C hs hn hS hl hP hQ => ?_⟩
  intro T hT X
  have hsz := a_size X hT hs hn hP
  exact a_after (st := st) (va_runI (As := As.map (a_v b)) (b := b + a) ⟨C.1, C.2.1, C.2.2.1, C.2.2.2.1, C.2.2.2.2.1⟩ (m3 D dA b) ⟨a_callB C hB hdp ⟨rfl, rfl⟩, hnm, C.2.2.2.2.1 _ hi⟩ ⟨a_blind (b := b), fun U hU hW => ⟨rfl, by rw [hU]; exact hsz, by rw [hU]; exact hP, va_K.moved hW.alike C.2.2.2.2.2.2.2.2.2, fun w hw => gN_warm hW w hw (C.2.2.2.2.2.1 w hw)⟩⟩ rfl (by rw [List.length_map]; exact hlen) hl.1 (by simp [List.map_append, List.map_reverse, a_v]) (a_room hr) hd ⟨by show h.2.1 - n0 + _ ≤ h'.2.1 - n0; omega, by show h.2.2 - S0 + _ ≤ h'.2.2 - S0; omega⟩) m1 m2 hn hS hQ (fun H1 locs1 hP1 hQ1 => q3 p e s m args below meth c D dA b H1 locs1 ls hZ C hs (Nat.le_trans hn m1) (Nat.le_trans hS m2) hl hP1 hQ1) T hT X
theorem zs_callN {δ : Type} {d' index np a : Nat} {y : MethodName} {cc : ByteArray} {nL : Nat} {Ψ : δ → Option Value × aH} {ec : Option δ} {kf : δ → Option γ} {As : List Value} (hf : a_CN M.2.1 index y cc nL np) (hdp : d' + 1 ≤ d) (hd : decode M.1 pc = .ok (.invokespecial index, 3)) (hlen : As.length = np) (hr : (st.map (fun v => v.category)).sum ≤ 8)
    (hm : ∀ x, ec = some x → aMet l d' y cc nL none (.ref a :: As) h (Ψ x).1 (Ψ x).2) {stk : List Value} (hst : stk = As.reverse ++ .ref a :: st) (k : ∀ x, ec = some x → zJ zz l d M n0 S0 Φ (pc + 3) lv ((Ψ x).1.toList ++ st) (Ψ x).2 (kf x)) : zJ zz l d M n0 S0 Φ pc lv stk h (ec.bind kf) := by
  subst hst
  intro z hz r h' hrr
  obtain ⟨x, hx, hk⟩ := Option.bind_eq_some_iff.mp hz
  obtain ⟨q1, q2, q3⟩ := k x hx z hk r h' hrr
  obtain ⟨m1, m2, m3⟩ := hm x hx
  obtain ⟨⟨f1, f2, f3, f4, f5⟩, hi, hnm⟩ := hf
  refine ⟨Nat.le_trans m1 q1, Nat.le_trans m2 q2, fun p e s m args below meth c D dA b H locs ls hZ C hs hn hS hl hP hQ => ?_⟩
  intro T hT X
  have hsz := a_size X hT hs hn hP
  exact a_after (st := st) (va_runIN (Ts := gT) (own := M.2.1) (host := "SwapBook") (bytes := cc) (maxL := nL) (n := np) (index := index) (As := As.map (a_v b)) (b := b + a) ⟨C.1, C.2.1, C.2.2.1, C.2.2.2.1, C.2.2.2.2.1⟩ (m3 D dA b) ⟨va_cnB np C.2.2.2.2.1 (gT_in (fun _ h => h) f2) rfl rfl rfl (C.2.2.2.2.2.1 _ f1) (C.2.2.2.2.1 _ f3) f5 ⟨by show d' + 1 ≤ d; exact hdp, by show 8 + (nL + 11) + 64 * d' ≤ 64 * d; omega⟩, hnm, C.2.2.2.2.1 _ hi⟩ ⟨a_blind (b := b), fun U hU hW => ⟨rfl, by rw [hU]; exact hsz, by rw [hU]; exact hP, va_K.moved hW.alike C.2.2.2.2.2.2.2.2.2, fun w hw => gN_warm hW w hw (C.2.2.2.2.2.1 w hw)⟩⟩ rfl (by rw [List.length_map]; exact hlen) hl.1 (by simp [List.map_append, List.map_reverse, a_v]) (a_room hr) hd ⟨by show h.2.1 - n0 + _ ≤ h'.2.1 - n0; omega, by show h.2.2 - S0 + _ ≤ h'.2.2 - S0; omega⟩) m1 m2 hn hS hQ (fun H1 locs1 hP1 hQ1 => q3 p e s m args below meth c D dA b H1 locs1 ls hZ C hs (Nat.le_trans hn m1) (Nat.le_trans hS m2) hl hP1 hQ1) T hT X
theorem zs_objInit {a : Nat} {index : Nat} (h1 : Cond.methodLink M.2.1 index objectInit ∈ gT) (h2 : Cond.instanceMethod objectInit ∈ gT) (h3 : Cond.code objectInit ⟨#[0xb1]⟩ 1 none ∈ gT) (hdp : 1 ≤ d) (hr : (st.map (fun v => v.category)).sum ≤ 8) (hd : decode M.1 pc = .ok (.invokespecial index, 3)) (k : zJ zz l d M n0 S0 Φ (pc + 3) lv st h e) : zJ zz l d M n0 S0 Φ pc lv (.ref a :: st) h e := fun z hz r h' hrr =>
  ⟨(k z hz r h' hrr).1, (k z hz r h' hrr).2.1, fun p e s m args below meth c D dA b H locs ls hZ C hs hn hS hl hP hQ => W.objInit C.1 C.2.1 C.2.2.2.1 (C.2.2.2.2.1 _ h1) (C.2.2.2.2.1 _ h2) (C.2.2.2.2.1 _ h3) rfl (hl.1.trans C.2.2.1.symm) (a := b + a) (rest := st.map (a_v b)) rfl hd (by show 1 ≤ d; exact hdp) (by have := a_room (b := b) (m := m) (pc := pc) (ls := ls) (stk := []) hr; show _ ≤ 64 * d; have e0 : (F0 m pc ls ((Value.ref a :: st).map (a_v b))).monitorRoom = 0 := rfl; rw [e0]; have e1 : (F0 m pc ls ([] : List Value)).monitorRoom = 0 := rfl; rw [e1] at this; omega) ((k z hz r h' hrr).2.2 p e s m args below meth c D dA b H locs ls hZ C hs hn hS hl hP hQ)⟩
end zaCalls
section zaNew
variable {l : Launch} {d : Nat} {M : aM} {n0 S0 : Nat} {γ : Type} {Φ : γ → Option Value → aH → Prop} {pc : Nat} {lv : List (Nat × Value)} {st : List Value} {h h2 : aH} {e e1 e2 : Option γ} {zz : zA}
theorem zs_new {index ci N : Nat} {fs : List Value} (hf : a_NW M.2.1 index ci N fs) (hd : decode M.1 pc = .ok (.new index, 3)) (k : zJ zz l d M n0 S0 Φ (pc + 3) lv (.ref h.2.1 :: st) (a_nw h (.inr (ci, fs)) N) e) : zJ zz l d M n0 S0 Φ pc lv st h e := by
  obtain ⟨C0, T, ty, h1, h2, h3, h4, h5, h6, h7, h8⟩ := hf
  intro z hz r h' hr
  obtain ⟨q1, q2, q3⟩ := k z hz r h' hr
  have q1' : h.2.1 + 1 ≤ h'.2.1 := q1
  have q2' : h.2.2 + N ≤ h'.2.2 := q2
  refine ⟨by omega, by omega, fun p e s m args below meth c D dA b H locs ls hZ C hs hn hS hl hP hQ => ?_⟩
  refine va_new (ws := a_w b dA h) (fs := fs) (ci := ci) (A := fun q => b ≤ q) (H0 := s.heap) C.1 C.2.1 C.2.2.2.2.1 h2 ty h3 C.2.2.2.1 (C.2.2.2.2.1 _ h4) (C.2.2.2.2.1 _ h5) (C.2.2.2.2.1 _ h6) C.2.2.2.2.2.2.2.2.2 hP (a_D b dA h) hQ (fun q hq => by omega) h1 h7 (by show h.2.1 - n0 + 1 ≤ h'.2.1 - n0; omega) (by show h.2.2 - S0 + N ≤ h'.2.2 - S0; omega) hd (fun q H1 hP1 hD1 hS1 => ?_)
  intro T' hT X
  have hq := a_addr X hT hs hn hP1 hD1
  subst hq
  have e1 : a_w b dA h ++ [(b + h.2.1, (Sum.inr (ci, fs) : va_E))] = a_w b dA (a_nw h (.inr (ci, fs)) N) := by
    rw [← a_app]
    show _ = a_w b dA h ++ [(b + h.2.1, (Sum.inr (ci, fs.map (a_v b)) : va_E))]
    rw [h8 b]
  rw [e1] at hP1
  have key := q3 p e s m args below meth c D dA b H1 locs ls hZ C hs (by show n0 ≤ h.2.1 + 1; omega) (by show S0 ≤ h.2.2 + N; omega) hl hP1 hS1
  rw [show (a_nw h (.inr (ci, fs)) N).2.1 - n0 = h.2.1 - n0 + 1 by show h.2.1 + 1 - n0 = _; omega, show (a_nw h (.inr (ci, fs)) N).2.2 - S0 = h.2.2 - S0 + N by show h.2.2 + N - S0 = _; omega] at key
  exact key T' hT X
theorem zs_newa {atype : ArrayType} {t N : Nat} {ty : FieldType} {n : Int32} {a0 : vp_A} (hd : decode M.1 pc = .ok (.newarray atype, 2)) (hw : Cond.arrayClass (newarray.typeOf atype) ∈ gT) (hty : newarray.typeOf atype = ty) (ht : ∀ dA, (a_ty dA)[t]? = some (dA t, ty)) (hra : ∀ (U : State) (cA : ClassId), va_RA U cA ty → U.vm.findClass ("[" ++ ty.toString) = some cA) (ha : ∀ cA : ClassId, vp_cell cA a0 = arrV cA N (fun _ => defaultValue ty)) (ha2 : ∀ b, a_a b a0 = a0) (hn0 : ¬ n < 0) (hN : n.toNatClampNeg = N) (hby : N * componentBytes ty ≤ 536870912)
    (k : zJ zz l d M n0 S0 Φ (pc + 2) lv (.ref h.2.1 :: st) (a_nw h (.inl (t, a0)) N) e) : zJ zz l d M n0 S0 Φ pc lv (.int n :: st) h e := by
  intro z hz r h' hr
  obtain ⟨q1, q2, q3⟩ := k z hz r h' hr
  have q1' : h.2.1 + 1 ≤ h'.2.1 := q1
  have q2' : h.2.2 + N ≤ h'.2.2 := q2
  refine ⟨by omega, by omega, fun p e s m args below meth c D dA b H locs ls hZ C hs hn hS hl hP hQ => ?_⟩
  have hK := C.2.2.2.2.2.2.2.2.2
  refine va_newa (ws := a_w b dA h) (A := fun q => b ≤ q) (H0 := s.heap) C.1 C.2.1 (C.2.2.2.2.1 _ hw) hty hK hP (a_D b dA h) hQ (fun q hq => by omega) ha hn0 hN hby (by show h.2.1 - n0 + 1 ≤ h'.2.1 - n0; omega) (by show h.2.2 - S0 + N ≤ h'.2.2 - S0; omega) hd (fun q cA H1 hK1 hP1 hD1 hS1 => ?_)
  intro T' hT X
  have hq := a_addr X hT hs hn hP1 hD1
  subst hq
  have hcA : cA = dA t := by
    have f1 := hra _ _ (hK.2 t _ (ht dA)).2
    have f2 := hra _ _ (hK1.2 6 _ (show (a_ty dA ++ [(cA, ty)])[6]? = some (cA, ty) from rfl)).2
    exact Option.some.inj (f2.symm.trans f1)
  subst hcA
  have e1 : a_w b dA h ++ [(b + h.2.1, (Sum.inl (dA t, a0) : va_E))] = a_w b dA (a_nw h (.inl (t, a0)) N) := by
    rw [← a_app]
    show _ = a_w b dA h ++ [(b + h.2.1, (Sum.inl (dA t, a_a b a0) : va_E))]
    rw [ha2 b]
  rw [e1] at hP1
  have key := q3 p e s m args below meth c D dA b H1 locs ls hZ C hs (by show n0 ≤ h.2.1 + 1; omega) (by show S0 ≤ h.2.2 + N; omega) hl hP1 hS1
  rw [show (a_nw h (.inl (t, a0)) N).2.1 - n0 = h.2.1 - n0 + 1 by show h.2.1 + 1 - n0 = _; omega, show (a_nw h (.inl (t, a0)) N).2.2 - S0 = h.2.2 - S0 + N by show h.2.2 + N - S0 = _; omega] at key
  exact key T' hT X
theorem zs_newI {N : Nat} {n : Int32} (hd : decode M.1 pc = .ok (.newarray .int, 2)) (hw : Cond.arrayClass .int ∈ gT) (hn0 : ¬ n < 0) (hN : n.toNatClampNeg = N) (hby : N ≤ 100000) (k : zJ zz l d M n0 S0 Φ (pc + 2) lv (.ref h.2.1 :: st) (a_nw h (.inl (0, z_I N)) N) e) : zJ zz l d M n0 S0 Φ pc lv (.int n :: st) h e :=
  zs_newa (ty := .int) (t := 0) (a0 := z_I N) hd hw rfl (fun _ => rfl) (fun _ _ x => x) (fun _ => rfl) (fun _ => rfl) hn0 hN (by show N * 4 ≤ _; omega) k
theorem zs_newL {N : Nat} {n : Int32} (hd : decode M.1 pc = .ok (.newarray .long, 2)) (hw : Cond.arrayClass .long ∈ gT) (hn0 : ¬ n < 0) (hN : n.toNatClampNeg = N) (hby : N ≤ 100000) (k : zJ zz l d M n0 S0 Φ (pc + 2) lv (.ref h.2.1 :: st) (a_nw h (.inl (1, z_L N)) N) e) : zJ zz l d M n0 S0 Φ pc lv (.int n :: st) h e :=
  zs_newa (ty := .long) (t := 1) (a0 := z_L N) hd hw rfl (fun _ => rfl) (fun _ _ x => x) (fun _ => rfl) (fun _ => rfl) hn0 hN (by show N * 8 ≤ _; omega) k
theorem zs_newB {N : Nat} {n : Int32} (hd : decode M.1 pc = .ok (.newarray .byte, 2)) (hw : Cond.arrayClass .byte ∈ gT) (hn0 : ¬ n < 0) (hN : n.toNatClampNeg = N) (hby : N ≤ 100000) (k : zJ zz l d M n0 S0 Φ (pc + 2) lv (.ref h.2.1 :: st) (a_nw h (.inl (2, z_I N)) N) e) : zJ zz l d M n0 S0 Φ pc lv (.int n :: st) h e :=
  zs_newa (ty := .byte) (t := 2) (a0 := z_I N) hd hw rfl (fun _ => rfl) (fun _ _ x => x) (fun _ => rfl) (fun _ => rfl) hn0 hN (by show N * 1 ≤ _; omega) k
theorem zs_newZ {N : Nat} {n : Int32} (hd : decode M.1 pc = .ok (.newarray .boolean, 2)) (hw : Cond.arrayClass .boolean ∈ gT) (hn0 : ¬ n < 0) (hN : n.toNatClampNeg = N) (hby : N ≤ 100000) (k : zJ zz l d M n0 S0 Φ (pc + 2) lv (.ref h.2.1 :: st) (a_nw h (.inl (3, z_I N)) N) e) : zJ zz l d M n0 S0 Φ pc lv (.int n :: st) h e :=
  zs_newa (ty := .boolean) (t := 3) (a0 := z_I N) hd hw rfl (fun _ => rfl) (fun _ _ x => x) (fun _ => rfl) (fun _ => rfl) hn0 hN (by show N * 1 ≤ _; omega) k
end zaNew
section znRules
variable {l : Launch} {d : Nat} {M : aM} {n0 S0 : Nat} {γ : Type} {Φ : γ → Option Value → aH → Prop} {pc : Nat} {lv : List (Nat × Value)} {st : List Value} {h : aH} {e : Option γ} {cs cs' : List aC} {k k' : Nat} {zz : zA}
theorem zn_put {index ci k0 j : Nat} {ty : FieldType} {fs : List Value} {v : Value} {fin : Bool} (hi : M.2.2.2.2 = true) (hf : a_FW M.2.1 index ci k0 ty fin) (hd : decode M.1 pc = .ok (.putfield index, 3)) (hj : cs[j]? = some (.inr (ci, fs))) (hl0 : k0 < fs.length) (hn : ∀ b, narrow ty (a_v b v) = a_v b v) (hfit : ∀ b, fits ty (a_v b v) = true) (he : cs.set j (.inr (ci, fs.set k0 v)) = cs') (kk : zJ zz l d M n0 S0 Φ (pc + 3) lv st (nH h cs' k) e) : zJ zz l d M n0 S0 Φ pc lv (v :: .ref (h.2.1 + j) :: st) (nH h cs k) e := by
  subst he
  cases fin with
  | false => exact zs_put hf hd (nH_at hj) (nH_lt hj) hl0 hn hfit (nH_up hj) kk
  | true => exact zs_putF hi hf hd (nH_at hj) (nH_lt hj) hl0 hn hfit (nH_up hj) kk
theorem zn_newI {N j : Nat} {n : Int32} (hd : decode M.1 pc = .ok (.newarray .int, 2)) (hn0 : ¬ n < 0) (hN : n.toNatClampNeg = N) (hby : N ≤ 100000) (hj : cs.length = j) (he : cs ++ [.inl (0, z_I N)] = cs') (hk : k + N = k') (kk : zJ zz l d M n0 S0 Φ (pc + 2) lv (.ref (h.2.1 + j) :: st) (nH h cs' k') e) : zJ zz l d M n0 S0 Φ pc lv (.int n :: st) (nH h cs k) e := by
  subst hj; subst he; subst hk
  exact zs_newI hd wa_int hn0 hN hby (by rw [nH_nw]; exact kk)
theorem zn_newL {N j : Nat} {n : Int32} (hd : decode M.1 pc = .ok (.newarray .long, 2)) (hn0 : ¬ n < 0) (hN : n.toNatClampNeg = N) (hby : N ≤ 100000) (hj : cs.length = j) (he : cs ++ [.inl (1, z_L N)] = cs') (hk : k + N = k') (kk : zJ zz l d M n0 S0 Φ (pc + 2) lv (.ref (h.2.1 + j) :: st) (nH h cs' k') e) : zJ zz l d M n0 S0 Φ pc lv (.int n :: st) (nH h cs k) e := by
  subst hj; subst he; subst hk
  exact zs_newL hd wa_long hn0 hN hby (by rw [nH_nw]; exact kk)
theorem zn_newB {N j : Nat} {n : Int32} (hd : decode M.1 pc = .ok (.newarray .byte, 2)) (hn0 : ¬ n < 0) (hN : n.toNatClampNeg = N) (hby : N ≤ 100000) (hj : cs.length = j) (he : cs ++ [.inl (2, z_I N)] = cs') (hk : k + N = k') (kk : zJ zz l d M n0 S0 Φ (pc + 2) lv (.ref (h.2.1 + j) :: st) (nH h cs' k') e) : zJ zz l d M n0 S0 Φ pc lv (.int n :: st) (nH h cs k) e := by
  subst hj; subst he; subst hk
  exact zs_newB hd wa_byte hn0 hN hby (by rw [nH_nw]; exact kk)
theorem zn_newZ {N j : Nat} {n : Int32} (hd : decode M.1 pc = .ok (.newarray .boolean, 2)) (hn0 : ¬ n < 0) (hN : n.toNatClampNeg = N) (hby : N ≤ 100000) (hj : cs.length = j) (he : cs ++ [.inl (3, z_I N)] = cs') (hk : k + N = k') (kk : zJ zz l d M n0 S0 Φ (pc + 2) lv (.ref (h.2.1 + j) :: st) (nH h cs' k') e) : zJ zz l d M n0 S0 Φ pc lv (.int n :: st) (nH h cs k) e := by
  subst hj; subst he; subst hk
  exact zs_newZ hd wa_boolean hn0 hN hby (by rw [nH_nw]; exact kk)
theorem zn_new {index ci N j : Nat} {fs : List Value} (hf : a_NW M.2.1 index ci N fs) (hd : decode M.1 pc = .ok (.new index, 3)) (hj : cs.length = j) (he : cs ++ [.inr (ci, fs)] = cs') (hk : k + N = k') (kk : zJ zz l d M n0 S0 Φ (pc + 3) lv (.ref (h.2.1 + j) :: st) (nH h cs' k') e) : zJ zz l d M n0 S0 Φ pc lv st (nH h cs k) e := by
  subst hj; subst he; subst hk
  exact zs_new hf hd (by rw [nH_nw]; exact kk)
theorem zn_callI {d' index np j N m : Nat} {y : MethodName} {cc : ByteArray} {nL : Nat} {As : List Value} {b0 : aC} {ds : List aC} (hf : a_CI M.2.1 index y cc nL np) (hdp : d' + 1 ≤ d) (hd : decode M.1 pc = .ok (.invokespecial index, 3)) (hlen : As.length = np) (hr : (st.map (fun v => v.category)).sum ≤ 8) (hj : cs.length = j) (hm : aMet l d' y cc nL none (.ref (h.2.1 + j) :: As) (nH (nH h cs k) [b0] N) none (nH (nH h cs k) ds m)) {stk : List Value} (hst : stk = As.reverse ++ .ref (h.2.1 + j) :: st) (he : cs ++ ds = cs') (hk : k + m = k') (kk : zJ zz l d M n0 S0 Φ (pc + 3) lv st (nH h cs' k') e) : zJ zz l d M n0 S0 Φ pc lv stk (nH h (cs ++ [b0]) (k + N)) e := by
  subst he; subst hk
  rw [nH_app, nH_app] at hm
  have q := zs_callI (Φ := Φ) (n0 := n0) (S0 := S0) (lv := lv) (ec := some ()) (kf := fun _ => e) (Ψ := fun _ => (none, nH h (cs ++ ds) (k + m))) hf hdp hd hlen hr (fun _ _ => hm) hst (fun _ _ => kk)
  exact q
theorem zn_callN {d' index np j N m : Nat} {y : MethodName} {cc : ByteArray} {nL : Nat} {As : List Value} {b0 : aC} {ds : List aC} (hf : a_CN M.2.1 index y cc nL np) (hdp : d' + 1 ≤ d) (hd : decode M.1 pc = .ok (.invokespecial index, 3)) (hlen : As.length = np) (hr : (st.map (fun v => v.category)).sum ≤ 8) (hj : cs.length = j) (hm : aMet l d' y cc nL none (.ref (h.2.1 + j) :: As) (nH (nH h cs k) [b0] N) none (nH (nH h cs k) ds m)) {stk : List Value} (hst : stk = As.reverse ++ .ref (h.2.1 + j) :: st) (he : cs ++ ds = cs') (hk : k + m = k') (kk : zJ zz l d M n0 S0 Φ (pc + 3) lv st (nH h cs' k') e) : zJ zz l d M n0 S0 Φ pc lv stk (nH h (cs ++ [b0]) (k + N)) e := by
  subst he; subst hk
  rw [nH_app, nH_app] at hm
  have q := zs_callN (Φ := Φ) (n0 := n0) (S0 := S0) (lv := lv) (ec := some ()) (kf := fun _ => e) (Ψ := fun _ => (none, nH h (cs ++ ds) (k + m))) hf hdp hd hlen hr (fun _ _ => hm) hst (fun _ _ => kk)
  exact q
theorem zs_geT {x y : Int32} {off : Int} {tgt : Nat} {hh : aH} (hc : y ≤ x) (hd : decode M.1 pc = .ok (.if_icmp .ge off, 3)) (ht : (pc : Int) + off = (tgt : Int)) (kk : zJ zz l d M n0 S0 Φ tgt lv st hh e) : zJ zz l d M n0 S0 Φ pc lv (.int y :: .int x :: st) hh e := fun z hz => zs_icmp_ge (e1 := e) (e2 := none) hd ht (fun _ => kk) (fun q => absurd hc q) z (by rw [if_pos hc]; exact hz)
theorem zs_geF {x y : Int32} {off : Int} {tgt : Nat} {hh : aH} (hc : ¬ y ≤ x) (hd : decode M.1 pc = .ok (.if_icmp .ge off, 3)) (ht : (pc : Int) + off = (tgt : Int)) (kk : zJ zz l d M n0 S0 Φ (pc + 3) lv st hh e) : zJ zz l d M n0 S0 Φ pc lv (.int y :: .int x :: st) hh e := fun z hz => zs_icmp_ge (e1 := none) (e2 := e) hd ht (fun q => absurd q hc) (fun _ => kk) z (by rw [if_neg hc]; exact hz)
end znRules
section zMore
variable {l : Launch} {d : Nat} {M : aM} {n0 S0 : Nat} {γ : Type} {Φ : γ → Option Value → aH → Prop} {pc : Nat} {lv : List (Nat × Value)} {st : List Value} {h h2 : aH} {e e1 e2 : Option γ} {zz : zA} {cs cs' : List aC} {k k' : Nat}
theorem zs_callIz {δ : Type} {d' index np a : Nat} {y : MethodName} {cc : ByteArray} {nL : Nat} {Ψ : δ → Option Value × aH} {ec : Option δ} {kf : δ → Option γ} {As : List Value} (hf : a_CI M.2.1 index y cc nL np) (hdp : d' + 1 ≤ d) (hd : decode M.1 pc = .ok (.invokespecial index, 3)) (hlen : As.length = np) (hr : (st.map (fun v => v.category)).sum ≤ 8)
    (hm : ∀ x, ec = some x → zMet zz l d' y cc nL none (.ref a :: As) h (Ψ x).1 (Ψ x).2) {stk : List Value} (hst : stk = As.reverse ++ .ref a :: st) (k : ∀ x, ec = some x → zJ zz l d M n0 S0 Φ (pc + 3) lv ((Ψ x).1.toList ++ st) (Ψ x).2 (kf x)) : zJ zz l d M n0 S0 Φ pc lv stk h (ec.bind kf) := by
  subst hst
  intro z hz r h' hrr
  obtain ⟨x, hx, hk⟩ := Option.bind_eq_some_iff.mp hz
  obtain ⟨q1, q2, q3⟩ := k x hx z hk r h' hrr
  obtain ⟨m1, m2, m3⟩ := hm x hx
  obtain ⟨hB, hi, hnm⟩ := hf
  refine ⟨Nat.le_trans m1 q1, Nat.le_trans m2 q2, fun p e s m args below meth c D dA b H locs ls hZ C hs hn hS hl hP hQ => ?_⟩
  intro T hT X
  have hsz := a_size X hT hs hn hP
  exact a_after (st := st) (va_runI (As := As.map (a_v b)) (b := b + a) ⟨C.1, C.2.1, C.2.2.1, C.2.2.2.1, C.2.2.2.2.1⟩ (m3 D dA b) ⟨a_callB C hB hdp ⟨rfl, rfl⟩, hnm, C.2.2.2.2.1 _ hi⟩ ⟨z_blind, fun U hU hW => ⟨rfl, by rw [hU]; exact hsz, by rw [hU]; exact hP, va_K.moved hW.alike C.2.2.2.2.2.2.2.2.2, fun w hw => gN_warm hW w hw (C.2.2.2.2.2.1 w hw), zZ_at hZ hQ hU hW⟩⟩ rfl (by rw [List.length_map]; exact hlen) hl.1 (by simp [List.map_append, List.map_reverse, a_v]) (a_room hr) hd ⟨by show h.2.1 - n0 + _ ≤ h'.2.1 - n0; omega, by show h.2.2 - S0 + _ ≤ h'.2.2 - S0; omega⟩) m1 m2 hn hS hQ (fun H1 locs1 hP1 hQ1 => q3 p e s m args below meth c D dA b H1 locs1 ls hZ C hs (Nat.le_trans hn m1) (Nat.le_trans hS m2) hl hP1 hQ1) T hT X
theorem zn_callIz {d' index np j N m : Nat} {y : MethodName} {cc : ByteArray} {nL : Nat} {As : List Value} {b0 : aC} {ds : List aC} (hf : a_CI M.2.1 index y cc nL np) (hdp : d' + 1 ≤ d) (hd : decode M.1 pc = .ok (.invokespecial index, 3)) (hlen : As.length = np) (hr : (st.map (fun v => v.category)).sum ≤ 8) (hj : cs.length = j) (hm : zMet zz l d' y cc nL none (.ref (h.2.1 + j) :: As) (nH (nH h cs k) [b0] N) none (nH (nH h cs k) ds m)) {stk : List Value} (hst : stk = As.reverse ++ .ref (h.2.1 + j) :: st) (he : cs ++ ds = cs') (hk : k + m = k') (kk : zJ zz l d M n0 S0 Φ (pc + 3) lv st (nH h cs' k') e) : zJ zz l d M n0 S0 Φ pc lv stk (nH h (cs ++ [b0]) (k + N)) e := by
  subst he; subst hk
  rw [nH_app, nH_app] at hm
  have q := zs_callIz (Φ := Φ) (n0 := n0) (S0 := S0) (lv := lv) (ec := some ()) (kf := fun _ => e) (Ψ := fun _ => (none, nH h (cs ++ ds) (k + m))) hf hdp hd hlen hr (fun _ _ => hm) hst (fun _ _ => kk)
  exact q
theorem z_meth {y : MethodName} {cc : ByteArray} {nL : Nat} {ret : Option FieldType} {ini : Bool} {av : List Value} (hy : plainName y.cls = true) (hini : ini = true → y.name = "<init>") (hsl : ∀ b, (lg_sl (av.map (a_v b))).length ≤ nL) (body : zJ zz l d (cc, y.cls, nL, ret, ini) h.2.1 h.2.2 Φ 0 (lv_args 0 av) [] h e) : ∀ x, e = some x → ∀ r h', Φ x r h' → zMet zz l d y cc nL ret av h r h' := by
  intro x hx r h' hr
  obtain ⟨q1, q2, q3⟩ := body x hx r h' hr
  refine ⟨q1, q2, fun D dA b => ?_⟩
  refine Met.ofW (cc := cc) (maxL := nL) (ret := ret) hy rfl ?_
  intro p e s m args below meth c s₁ B hml hv
  obtain ⟨rfl, hsz, hP, hK, hN, hZ⟩ := hv
  have hts := atoms_spec (ws := .code y cc nL ret :: gT) B.pre
  have hl := lv_entry (av.map (a_v b)) (n := nL) (hsl b)
  rw [lg_entry_eq]
  generalize (lg_sl (av.map (a_v b)) ++ List.replicate (nL - (lg_sl (av.map (a_v b))).length) Slot.unset).toArray = ls at hl ⊢
  rw [a_args] at hl
  have key := q3 p e s m (av.map (a_v b)).toArray below meth c D dA b s.heap [] ls hZ ⟨B.exec, B.bytes, hml, findClass_of_methodNamed B.named, fun w hw => hts w (List.mem_cons_of_mem _ hw), hN, B.notSynchronized, B.returns, fun hi => (name_of_methodNamed B.named B.method).1.trans (hini hi), hK⟩ hsz (Nat.le_refl _) (Nat.le_refl _) hl hP va_S.rf
  rw [Nat.sub_self, Nat.sub_self] at key
  exact key
/-- a row of references -/
def z_R (N : Nat) : vp_A := (N, .inr (.inr (.inr (.inr (fun _ => none)))))
theorem zs_anew {index t N : Nat} {C0 : String} {n : Int32} (hz0 : ∀ b s, zZ zz b s → va_AO C0 s) (hd : decode M.1 pc = .ok (.anewarray index, 3)) (hw : Cond.classLink M.2.1 index C0 ∈ gT) (ht : ∀ dA, (a_ty dA)[t]? = some (dA t, .object C0)) (hn0 : ¬ n < 0) (hN : n.toNatClampNeg = N) (hby : N ≤ 1000) (k : zJ zz l d M n0 S0 Φ (pc + 3) lv (.ref h.2.1 :: st) (a_nw h (.inl (t, z_R N)) N) e) : zJ zz l d M n0 S0 Φ pc lv (.int n :: st) h e := by
  intro z hz r h' hr
  obtain ⟨q1, q2, q3⟩ := k z hz r h' hr
  have q1' : h.2.1 + 1 ≤ h'.2.1 := q1
  have q2' : h.2.2 + N ≤ h'.2.2 := q2
  refine ⟨by omega, by omega, fun p e s m args below meth c D dA b H locs ls hZ C hs hn hS hl hP hQ => ?_⟩
  have hK := C.2.2.2.2.2.2.2.2.2
  refine va_newq (ws := a_w b dA h) (A := fun q => b ≤ q) (H0 := s.heap) C.1 C.2.1 C.2.2.2.1 (C.2.2.2.2.1 _ hw) (hz0 b s hZ) hK hP (a_D b dA h) hQ (fun q hq => by omega) hn0 hN (by omega) (by show h.2.1 - n0 + 1 ≤ h'.2.1 - n0; omega) (by show h.2.2 - S0 + N ≤ h'.2.2 - S0; omega) hd (fun q cA H1 hK1 hP1 hD1 hS1 => ?_)
  intro T' hT X
  have hq := a_addr X hT hs hn hP1 hD1
  subst hq
  have hcA : cA = dA t := by
    obtain ⟨kA, comp, -, -, -, f1⟩ := (hK.2 t _ (ht dA)).2
    obtain ⟨kB, comp2, -, -, -, f2⟩ := (hK1.2 6 _ (show (a_ty dA ++ [(cA, FieldType.object C0)])[6]? = some (cA, FieldType.object C0) from rfl)).2
    exact Option.some.inj (f2.symm.trans f1)
  subst hcA
  have e1 : a_w b dA h ++ [(b + h.2.1, (Sum.inl (dA t, z_R N) : va_E))] = a_w b dA (a_nw h (.inl (t, z_R N)) N) := by
    rw [← a_app]; rfl
  have hP2 : va_P D vwCl (a_w b dA (a_nw h (.inl (t, z_R N)) N)) H1 := by rw [← e1]; exact hP1
  have key := q3 p e s m args below meth c D dA b H1 locs ls hZ C hs (by show n0 ≤ h.2.1 + 1; omega) (by show S0 ≤ h.2.2 + N; omega) hl hP2 hS1
  rw [show (a_nw h (.inl (t, z_R N)) N).2.1 - n0 = h.2.1 - n0 + 1 by show h.2.1 + 1 - n0 = _; omega, show (a_nw h (.inl (t, z_R N)) N).2.2 - S0 = h.2.2 - S0 + N by show h.2.2 + N - S0 = _; omega] at key
  exact key T' hT X
theorem zn_anew {index t N j : Nat} {C0 : String} {n : Int32} (hz0 : ∀ b s, zZ zz b s → va_AO C0 s) (hd : decode M.1 pc = .ok (.anewarray index, 3)) (hw : Cond.classLink M.2.1 index C0 ∈ gT) (ht : ∀ dA, (a_ty dA)[t]? = some (dA t, .object C0)) (hn0 : ¬ n < 0) (hN : n.toNatClampNeg = N) (hby : N ≤ 1000) (hj : cs.length = j) (he : cs ++ [.inl (t, z_R N)] = cs') (hk : k + N = k') (kk : zJ zz l d M n0 S0 Φ (pc + 3) lv (.ref (h.2.1 + j) :: st) (nH h cs' k') e) : zJ zz l d M n0 S0 Φ pc lv (.int n :: st) (nH h cs k) e := by
  subst hj; subst he; subst hk
  exact zs_anew hz0 hd hw ht hn0 hN hby (by rw [nH_nw]; exact kk)
theorem zs_aast {a v t ci n : Nat} {f : Nat → Option Nat} {i : Int32} {fs : List Value} {r0 : vw_C} (hd : decode M.1 pc = .ok (.aastore, 1)) (hc : h.1 a = .inl (t, n, .inr (.inr (.inr (.inr f))))) (ha : a < h.2.1) (hcv : h.1 v = .inr (ci, fs)) (hav : v < h.2.1) (hr0 : vwCl[ci]? = some r0) (ht : ∀ dA, (a_ty dA)[t]? = some (dA t, .object r0.1)) (hin : vp_in i n) (he : a_up h a (.inl (t, n, .inr (.inr (.inr (.inr (va_up f i.toNatClampNeg (some v))))))) = h2) (k : zJ zz l d M n0 S0 Φ (pc + 1) lv st h2 e) : zJ zz l d M n0 S0 Φ pc lv (.ref v :: .int i :: .ref a :: st) h e := by
  subst he
  refine za_stepH (h := h) (h2 := a_up h a (.inl (t, n, .inr (.inr (.inr (.inr (va_up f i.toNatClampNeg (some v)))))))) rfl (fun p e R s m args below meth c D dA b H locs cells slots Q ls C hl hP hQ _ _ k => va_astq (ws := a_w b dA h) (a := b + a) (v := b + v) (vs := fs.map (a_v b)) (f := fun j => (f j).map (fun x => b + x)) C.1 C.2.1 C.2.2.2.2.2.2.2.2.2 hP (a_D b dA h) hQ a t v ci (by rw [a_w_at ha, hc]; rfl) (ht dA) (by rw [a_w_at hav, hcv]; rfl) hr0 hin hd (fun H1 locs1 hP1 _ hQ1 => k H1 locs1 ?_ hQ1)) k
  have e1 : (b + a, (Sum.inl (dA t, n, .inr (.inr (.inr (.inr (va_up (fun j => (f j).map (fun x => b + x)) i.toNatClampNeg (some (b + v))))))) : va_E)) = (b + a, a_e b dA (.inl (t, n, .inr (.inr (.inr (.inr (va_up f i.toNatClampNeg (some v)))))))) := by
    show _ = (b + a, (Sum.inl (dA t, n, .inr (.inr (.inr (.inr (fun j => (va_up f i.toNatClampNeg (some v) j).map (fun x => b + x)))))) : va_E))
    have : va_up (fun j => (f j).map (fun x => b + x)) i.toNatClampNeg (some (b + v)) = fun j => (va_up f i.toNatClampNeg (some v) j).map (fun x => b + x) := by
      funext j
      unfold va_up
      by_cases q : j = i.toNatClampNeg
      · simp [q]
      · simp [q]
    rw [this]
  rw [e1, a_set] at hP1
  exact hP1
theorem zn_aast {jv j t ci n : Nat} {f : Nat → Option Nat} {i : Int32} {fs : List Value} {r0 : vw_C} (hd : decode M.1 pc = .ok (.aastore, 1)) (hj : cs[j]? = some (.inl (t, n, .inr (.inr (.inr (.inr f)))))) (hjv : cs[jv]? = some (.inr (ci, fs))) (hr0 : vwCl[ci]? = some r0) (ht : ∀ dA, (a_ty dA)[t]? = some (dA t, .object r0.1)) (hin : vp_in i n) (he : cs.set j (.inl (t, n, .inr (.inr (.inr (.inr (va_up f i.toNatClampNeg (some (h.2.1 + jv)))))))) = cs') (kk : zJ zz l d M n0 S0 Φ (pc + 1) lv st (nH h cs' k) e) : zJ zz l d M n0 S0 Φ pc lv (.ref (h.2.1 + jv) :: .int i :: .ref (h.2.1 + j) :: st) (nH h cs k) e := by
  subst he
  exact zs_aast hd (nH_at hj) (nH_lt hj) (nH_at hjv) (nH_lt hjv) hr0 ht hin (nH_up hj) kk
end zMore
