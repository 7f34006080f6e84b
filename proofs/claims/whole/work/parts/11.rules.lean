section aRules
variable {l : Launch} {d : Nat} {M : aM} {n0 S0 : Nat} {γ : Type} {Φ : γ → Option Value → aH → Prop} {pc : Nat} {lv : List (Nat × Value)} {st : List Value} {h : aH} {e e1 e2 : Option γ}
theorem a_v_cat (b : Nat) (v : Value) : (a_v b v).category = v.category := by cases v <;> rfl
theorem a_cats (b : Nat) (st : List Value) : ((st.map (a_v b)).map (fun v => v.category)) = st.map (fun v => v.category) := by
  rw [List.map_map]; apply List.map_congr_left; intro v _; exact a_v_cat b v
theorem a_lv_at {b : Nat} {ls : Array Slot} {nL k i : Nat} {v : Value} (hl : lv_has ls nL (lv.map (fun q => (q.1, a_v b q.2)))) (hk : lv[k]? = some (i, v)) : ls[i]? = some (.val (a_v b v)) :=
  lv_at hl k (by rw [List.getElem?_map, hk]; rfl)
theorem a_lv_st {b i : Nat} {v : Value} {lv' : List (Nat × Value)} (hl : (i, v) :: lv.filter (fun q => !(q.1 == i) && !(q.1 + 1 == i && q.2.category == 2)) = lv') : (i, a_v b v) :: (lv.map (fun q => (q.1, a_v b q.2))).filter (fun q => !(q.1 == i) && !(q.1 + 1 == i && q.2.category == 2)) = lv'.map (fun q => (q.1, a_v b q.2)) := by
  subst hl
  rw [List.map_cons, List.filter_map]
  congr 2
  apply List.filter_congr
  intro q _
  simp [a_v_cat]
theorem a_lv_st2 {b i : Nat} {v : Value} {lv' : List (Nat × Value)} (hl : (i, v) :: lv.filter (fun q => !(q.1 == i) && (!(q.1 == i + 1) && !(q.1 + 1 == i && q.2.category == 2))) = lv') : (i, a_v b v) :: (lv.map (fun q => (q.1, a_v b q.2))).filter (fun q => !(q.1 == i) && (!(q.1 == i + 1) && !(q.1 + 1 == i && q.2.category == 2))) = lv'.map (fun q => (q.1, a_v b q.2)) := by
  subst hl
  rw [List.map_cons, List.filter_map]
  congr 2
  apply List.filter_congr
  intro q _
  simp [a_v_cat]
/-- an instruction that neither writes the heap nor the locals -/
theorem a_step {pc2 : Nat} {st2 : List Value} (f : ∀ (p : Program) (e : Env) (R : Room) (s : State) (m : MethodId) (args : Array Value) (below : List Frame) (meth : Method) (c : Code) (D : va_G) (dA : Nat → ClassId) (b : Nat) (H : Heap) (locs : List Loc) (cells slots : Nat) (Q : State → Prop) (ls : Array Slot),
      a_Cx p s m args meth c D dA M → lv_has ls M.2.2.1 (lv.map (fun q => (q.1, a_v b q.2))) → va_P D vwCl (a_w b dA h) H → W p l e R s m args below meth c H locs cells slots Q (F0 m pc2 ls (st2.map (a_v b))) → W p l e R s m args below meth c H locs cells slots Q (F0 m pc ls (st.map (a_v b))))
    (k : aS l d M n0 S0 Φ pc2 lv st2 h e) : aS l d M n0 S0 Φ pc lv st h e := fun z hz r h' hr =>
  ⟨(k z hz r h' hr).1, (k z hz r h' hr).2.1, fun p e s m args below meth c D dA b H locs ls C hs hn hS hl hP hQ => f p e _ s m args below meth c D dA b H locs _ _ _ ls C hl hP ((k z hz r h' hr).2.2 p e s m args below meth c D dA b H locs ls C hs hn hS hl hP hQ)⟩
/-- an instruction that writes a local -/
theorem a_stepL {pc2 : Nat} {st2 : List Value} {lv' : List (Nat × Value)} (f : ∀ (p : Program) (e : Env) (R : Room) (s : State) (m : MethodId) (args : Array Value) (below : List Frame) (meth : Method) (c : Code) (D : va_G) (dA : Nat → ClassId) (b : Nat) (H : Heap) (locs : List Loc) (cells slots : Nat) (Q : State → Prop) (ls : Array Slot),
      a_Cx p s m args meth c D dA M → lv_has ls M.2.2.1 (lv.map (fun q => (q.1, a_v b q.2))) → (∀ ls' : Array Slot, lv_has ls' M.2.2.1 (lv'.map (fun q => (q.1, a_v b q.2))) → W p l e R s m args below meth c H locs cells slots Q (F0 m pc2 ls' (st2.map (a_v b)))) → W p l e R s m args below meth c H locs cells slots Q (F0 m pc ls (st.map (a_v b))))
    (k : aS l d M n0 S0 Φ pc2 lv' st2 h e) : aS l d M n0 S0 Φ pc lv st h e := fun z hz r h' hr =>
  ⟨(k z hz r h' hr).1, (k z hz r h' hr).2.1, fun p e s m args below meth c D dA b H locs ls C hs hn hS hl hP hQ => f p e _ s m args below meth c D dA b H locs _ _ _ ls C hl (fun ls' hl' => (k z hz r h' hr).2.2 p e s m args below meth c D dA b H locs ls' C hs hn hS hl' hP hQ)⟩
theorem s_sub (ks : List Nat) {lv' : List (Nat × Value)} (hs : lv_pick lv ks = lv') (k : aS l d M n0 S0 Φ pc lv' st h e) : aS l d M n0 S0 Φ pc lv st h e := fun z hz r h' hr =>
  ⟨(k z hz r h' hr).1, (k z hz r h' hr).2.1, fun p e s m args below meth c D dA b H locs ls C hs0 hn hS hl hP hQ => (k z hz r h' hr).2.2 p e s m args below meth c D dA b H locs ls C hs0 hn hS (lv_sub hl ks (by subst hs; simp only [lv_pick, List.map_filterMap, List.getElem?_map])) hP hQ⟩
def b2i (b : Bool) : Int32 := if b then 1 else 0
/-- an index outside: no answer -/
def g_in {γ : Type} (i : Int32) (n : Nat) (e : Option γ) : Option γ := if i < 0 ∨ n ≤ i.toNatClampNeg then none else e
def g_nz {γ : Type} (y : Int32) (e : Option γ) : Option γ := if y = 0 then none else e
def g_nzL {γ : Type} (y : Int64) (e : Option γ) : Option γ := if y = 0 then none else e
theorem g_in_some {i : Int32} {n : Nat} {x : γ} (h : g_in i n e = some x) : vp_in i n ∧ e = some x := by
  unfold g_in at h
  split at h
  · cases h
  · exact ⟨by assumption, h⟩
theorem g_nz_some {y : Int32} {x : γ} (h : g_nz y e = some x) : ¬ y = 0 ∧ e = some x := by
  unfold g_nz at h
  split at h
  · cases h
  · exact ⟨by assumption, h⟩
theorem g_nzL_some {y : Int64} {x : γ} (h : g_nzL y e = some x) : ¬ y = 0 ∧ e = some x := by
  unfold g_nzL at h
  split at h
  · cases h
  · exact ⟨by assumption, h⟩
theorem s_iconst {n : Int} {v : Int32} (hd : decode M.1 pc = .ok (.iconst n, 1)) (hv : Int32.ofInt n = v) (k : aS l d M n0 S0 Φ (pc + 1) lv (.int v :: st) h e) : aS l d M n0 S0 Φ pc lv (st) h e := a_step (fun p e R s m args below meth c D dA b H locs cells slots Q ls C hl hP k => lv_iconst (v := v) C.1 C.2.1 hd hv k) k
theorem s_bipush {n : Int} {v : Int32} (hd : decode M.1 pc = .ok (.bipush n, 2)) (hv : (Int8.ofInt n).toInt32 = v) (k : aS l d M n0 S0 Φ (pc + 2) lv (.int v :: st) h e) : aS l d M n0 S0 Φ pc lv (st) h e := a_step (fun p e R s m args below meth c D dA b H locs cells slots Q ls C hl hP k => lv_bipush (v := v) C.1 C.2.1 hd hv k) k
theorem s_sipush {n : Int} {v : Int32} (hd : decode M.1 pc = .ok (.sipush n, 3)) (hv : (Int16.ofInt n).toInt32 = v) (k : aS l d M n0 S0 Φ (pc + 3) lv (.int v :: st) h e) : aS l d M n0 S0 Φ pc lv (st) h e := a_step (fun p e R s m args below meth c D dA b H locs cells slots Q ls C hl hP k => lv_sipush (v := v) C.1 C.2.1 hd hv k) k
theorem s_lconst {n : Fin 2} {v : Int64} (hd : decode M.1 pc = .ok (.lconst n, 1)) (hv : Int64.ofNat (n : Nat) = v) (k : aS l d M n0 S0 Φ (pc + 1) lv (.long v :: st) h e) : aS l d M n0 S0 Φ pc lv (st) h e := a_step (fun p e R s m args below meth c D dA b H locs cells slots Q ls C hl hP k => lv_lconst (v := v) C.1 C.2.1 hd hv k) k
theorem s_null  (hd : decode M.1 pc = .ok (.aconst_null, 1)) (k : aS l d M n0 S0 Φ (pc + 1) lv (.null :: st) h e) : aS l d M n0 S0 Φ pc lv (st) h e := a_step (fun p e R s m args below meth c D dA b H locs cells slots Q ls C hl hP k => lv_null C.1 C.2.1 hd  k) k
theorem s_iload_n (k0 : Nat) {k : Fin 4} {x : Int32} (hd : decode M.1 pc = .ok (.iload_n k, 1)) (hk : lv[k0]? = some ((k : Nat), .int x)) (k : aS l d M n0 S0 Φ (pc + 1) lv (.int x :: st) h e) : aS l d M n0 S0 Φ pc lv (st) h e := a_step (fun p e R s m args below meth c D dA b H locs cells slots Q ls C hl hP k => lv_iload_n C.1 C.2.1 hd rfl (a_lv_at hl hk) k) k
theorem s_iload (k0 : Nat) {i : Nat} {x : Int32} (hd : decode M.1 pc = .ok (.iload i, 2)) (hk : lv[k0]? = some (i, .int x)) (k : aS l d M n0 S0 Φ (pc + 2) lv (.int x :: st) h e) : aS l d M n0 S0 Φ pc lv (st) h e := a_step (fun p e R s m args below meth c D dA b H locs cells slots Q ls C hl hP k => lv_iload C.1 C.2.1 hd (a_lv_at hl hk) k) k
theorem s_lload_n (k0 : Nat) {k : Fin 4} {x : Int64} (hd : decode M.1 pc = .ok (.lload_n k, 1)) (hk : lv[k0]? = some ((k : Nat), .long x)) (k : aS l d M n0 S0 Φ (pc + 1) lv (.long x :: st) h e) : aS l d M n0 S0 Φ pc lv (st) h e := a_step (fun p e R s m args below meth c D dA b H locs cells slots Q ls C hl hP k => lv_lload_n C.1 C.2.1 hd rfl (a_lv_at hl hk) k) k
theorem s_lload (k0 : Nat) {i : Nat} {x : Int64} (hd : decode M.1 pc = .ok (.lload i, 2)) (hk : lv[k0]? = some (i, .long x)) (k : aS l d M n0 S0 Φ (pc + 2) lv (.long x :: st) h e) : aS l d M n0 S0 Φ pc lv (st) h e := a_step (fun p e R s m args below meth c D dA b H locs cells slots Q ls C hl hP k => lv_lload C.1 C.2.1 hd (a_lv_at hl hk) k) k
theorem s_aload_n (k0 : Nat) {k : Fin 4} {x : Nat} (hd : decode M.1 pc = .ok (.aload_n k, 1)) (hk : lv[k0]? = some ((k : Nat), .ref x)) (k : aS l d M n0 S0 Φ (pc + 1) lv (.ref x :: st) h e) : aS l d M n0 S0 Φ pc lv (st) h e := a_step (fun p e R s m args below meth c D dA b H locs cells slots Q ls C hl hP k => lv_aload_n C.1 C.2.1 hd rfl (a_lv_at hl hk) k) k
theorem s_aload (k0 : Nat) {i : Nat} {x : Nat} (hd : decode M.1 pc = .ok (.aload i, 2)) (hk : lv[k0]? = some (i, .ref x)) (k : aS l d M n0 S0 Φ (pc + 2) lv (.ref x :: st) h e) : aS l d M n0 S0 Φ pc lv (st) h e := a_step (fun p e R s m args below meth c D dA b H locs cells slots Q ls C hl hP k => lv_aload C.1 C.2.1 hd (a_lv_at hl hk) k) k
theorem s_aload_nN (k0 : Nat) {k : Fin 4} (hd : decode M.1 pc = .ok (.aload_n k, 1)) (hk : lv[k0]? = some ((k : Nat), .null)) (k : aS l d M n0 S0 Φ (pc + 1) lv (.null :: st) h e) : aS l d M n0 S0 Φ pc lv (st) h e := a_step (fun p e R s m args below meth c D dA b H locs cells slots Q ls C hl hP k => lv_aload_nN C.1 C.2.1 hd rfl (a_lv_at hl hk) k) k
theorem s_aloadN (k0 : Nat) {i : Nat} (hd : decode M.1 pc = .ok (.aload i, 2)) (hk : lv[k0]? = some (i, .null)) (k : aS l d M n0 S0 Φ (pc + 2) lv (.null :: st) h e) : aS l d M n0 S0 Φ pc lv (st) h e := a_step (fun p e R s m args below meth c D dA b H locs cells slots Q ls C hl hP k => lv_aloadN C.1 C.2.1 hd (a_lv_at hl hk) k) k
theorem s_iadd {x y : Int32} (hd : decode M.1 pc = .ok (.iadd, 1)) (k : aS l d M n0 S0 Φ (pc + 1) lv (.int (x + y) :: st) h e) : aS l d M n0 S0 Φ pc lv (.int y :: .int x :: st) h e := a_step (fun p e R s m args below meth c D dA b H locs cells slots Q ls C hl hP k => lv_iadd C.1 C.2.1 hd  k) k
theorem s_isub {x y : Int32} (hd : decode M.1 pc = .ok (.isub, 1)) (k : aS l d M n0 S0 Φ (pc + 1) lv (.int (x - y) :: st) h e) : aS l d M n0 S0 Φ pc lv (.int y :: .int x :: st) h e := a_step (fun p e R s m args below meth c D dA b H locs cells slots Q ls C hl hP k => lv_isub C.1 C.2.1 hd  k) k
theorem s_imul {x y : Int32} (hd : decode M.1 pc = .ok (.imul, 1)) (k : aS l d M n0 S0 Φ (pc + 1) lv (.int (x * y) :: st) h e) : aS l d M n0 S0 Φ pc lv (.int y :: .int x :: st) h e := a_step (fun p e R s m args below meth c D dA b H locs cells slots Q ls C hl hP k => lv_imul C.1 C.2.1 hd  k) k
theorem s_iand {x y : Int32} (hd : decode M.1 pc = .ok (.iand, 1)) (k : aS l d M n0 S0 Φ (pc + 1) lv (.int (x &&& y) :: st) h e) : aS l d M n0 S0 Φ pc lv (.int y :: .int x :: st) h e := a_step (fun p e R s m args below meth c D dA b H locs cells slots Q ls C hl hP k => lv_iand C.1 C.2.1 hd  k) k
theorem s_ior {x y : Int32} (hd : decode M.1 pc = .ok (.ior, 1)) (k : aS l d M n0 S0 Φ (pc + 1) lv (.int (x ||| y) :: st) h e) : aS l d M n0 S0 Φ pc lv (.int y :: .int x :: st) h e := a_step (fun p e R s m args below meth c D dA b H locs cells slots Q ls C hl hP k => lv_ior C.1 C.2.1 hd  k) k
theorem s_ixor {x y : Int32} (hd : decode M.1 pc = .ok (.ixor, 1)) (k : aS l d M n0 S0 Φ (pc + 1) lv (.int (x ^^^ y) :: st) h e) : aS l d M n0 S0 Φ pc lv (.int y :: .int x :: st) h e := a_step (fun p e R s m args below meth c D dA b H locs cells slots Q ls C hl hP k => lv_ixor C.1 C.2.1 hd  k) k
theorem s_ishl {x y : Int32} (hd : decode M.1 pc = .ok (.ishl, 1)) (k : aS l d M n0 S0 Φ (pc + 1) lv (.int (x <<< (y &&& 31)) :: st) h e) : aS l d M n0 S0 Φ pc lv (.int y :: .int x :: st) h e := a_step (fun p e R s m args below meth c D dA b H locs cells slots Q ls C hl hP k => lv_ishl C.1 C.2.1 hd  k) k
theorem s_ishr {x y : Int32} (hd : decode M.1 pc = .ok (.ishr, 1)) (k : aS l d M n0 S0 Φ (pc + 1) lv (.int (x >>> (y &&& 31)) :: st) h e) : aS l d M n0 S0 Φ pc lv (.int y :: .int x :: st) h e := a_step (fun p e R s m args below meth c D dA b H locs cells slots Q ls C hl hP k => lv_ishr C.1 C.2.1 hd  k) k
theorem s_iushr {x y : Int32} (hd : decode M.1 pc = .ok (.iushr, 1)) (k : aS l d M n0 S0 Φ (pc + 1) lv (.int ((x.toUInt32 >>> (y.toUInt32 &&& Int32.toUInt32 31)).toInt32) :: st) h e) : aS l d M n0 S0 Φ pc lv (.int y :: .int x :: st) h e := a_step (fun p e R s m args below meth c D dA b H locs cells slots Q ls C hl hP k => lv_iushr C.1 C.2.1 hd rfl k) k
theorem s_ineg {x : Int32} (hd : decode M.1 pc = .ok (.ineg, 1)) (k : aS l d M n0 S0 Φ (pc + 1) lv (.int (-x) :: st) h e) : aS l d M n0 S0 Φ pc lv (.int x :: st) h e := a_step (fun p e R s m args below meth c D dA b H locs cells slots Q ls C hl hP k => lv_ineg C.1 C.2.1 hd  k) k
theorem s_idivC {x y : Int32} (hd : decode M.1 pc = .ok (.idiv, 1)) (hne : ¬ y = 0) (k : aS l d M n0 S0 Φ (pc + 1) lv (.int (x / y) :: st) h e) : aS l d M n0 S0 Φ pc lv (.int y :: .int x :: st) h e := a_step (fun p e R s m args below meth c D dA b H locs cells slots Q ls C hl hP k => lv_idiv C.1 C.2.1 hd hne k) k
theorem s_idiv {x y : Int32} (hd : decode M.1 pc = .ok (.idiv, 1)) (k : aS l d M n0 S0 Φ (pc + 1) lv (.int (x / y) :: st) h e) : aS l d M n0 S0 Φ pc lv (.int y :: .int x :: st) h (g_nz y e) := fun z hz => s_idivC hd (g_nz_some hz).1 k z (g_nz_some hz).2
theorem s_iremC {x y : Int32} (hd : decode M.1 pc = .ok (.irem, 1)) (hne : ¬ y = 0) (k : aS l d M n0 S0 Φ (pc + 1) lv (.int (x - x / y * y) :: st) h e) : aS l d M n0 S0 Φ pc lv (.int y :: .int x :: st) h e := a_step (fun p e R s m args below meth c D dA b H locs cells slots Q ls C hl hP k => lv_irem C.1 C.2.1 hd hne k) k
theorem s_irem {x y : Int32} (hd : decode M.1 pc = .ok (.irem, 1)) (k : aS l d M n0 S0 Φ (pc + 1) lv (.int (x - x / y * y) :: st) h e) : aS l d M n0 S0 Φ pc lv (.int y :: .int x :: st) h (g_nz y e) := fun z hz => s_iremC hd (g_nz_some hz).1 k z (g_nz_some hz).2
theorem s_ladd {x y : Int64} (hd : decode M.1 pc = .ok (.ladd, 1)) (k : aS l d M n0 S0 Φ (pc + 1) lv (.long (x + y) :: st) h e) : aS l d M n0 S0 Φ pc lv (.long y :: .long x :: st) h e := a_step (fun p e R s m args below meth c D dA b H locs cells slots Q ls C hl hP k => lv_ladd C.1 C.2.1 hd  k) k
theorem s_lsub {x y : Int64} (hd : decode M.1 pc = .ok (.lsub, 1)) (k : aS l d M n0 S0 Φ (pc + 1) lv (.long (x - y) :: st) h e) : aS l d M n0 S0 Φ pc lv (.long y :: .long x :: st) h e := a_step (fun p e R s m args below meth c D dA b H locs cells slots Q ls C hl hP k => lv_lsub C.1 C.2.1 hd  k) k
theorem s_lmul {x y : Int64} (hd : decode M.1 pc = .ok (.lmul, 1)) (k : aS l d M n0 S0 Φ (pc + 1) lv (.long (x * y) :: st) h e) : aS l d M n0 S0 Φ pc lv (.long y :: .long x :: st) h e := a_step (fun p e R s m args below meth c D dA b H locs cells slots Q ls C hl hP k => lv_lmul C.1 C.2.1 hd  k) k
theorem s_land {x y : Int64} (hd : decode M.1 pc = .ok (.land, 1)) (k : aS l d M n0 S0 Φ (pc + 1) lv (.long (x &&& y) :: st) h e) : aS l d M n0 S0 Φ pc lv (.long y :: .long x :: st) h e := a_step (fun p e R s m args below meth c D dA b H locs cells slots Q ls C hl hP k => lv_land C.1 C.2.1 hd  k) k
theorem s_lor {x y : Int64} (hd : decode M.1 pc = .ok (.lor, 1)) (k : aS l d M n0 S0 Φ (pc + 1) lv (.long (x ||| y) :: st) h e) : aS l d M n0 S0 Φ pc lv (.long y :: .long x :: st) h e := a_step (fun p e R s m args below meth c D dA b H locs cells slots Q ls C hl hP k => lv_lor C.1 C.2.1 hd  k) k
theorem s_lxor {x y : Int64} (hd : decode M.1 pc = .ok (.lxor, 1)) (k : aS l d M n0 S0 Φ (pc + 1) lv (.long (x ^^^ y) :: st) h e) : aS l d M n0 S0 Φ pc lv (.long y :: .long x :: st) h e := a_step (fun p e R s m args below meth c D dA b H locs cells slots Q ls C hl hP k => lv_lxor C.1 C.2.1 hd  k) k
theorem s_lneg {x : Int64} (hd : decode M.1 pc = .ok (.lneg, 1)) (k : aS l d M n0 S0 Φ (pc + 1) lv (.long (-x) :: st) h e) : aS l d M n0 S0 Φ pc lv (.long x :: st) h e := a_step (fun p e R s m args below meth c D dA b H locs cells slots Q ls C hl hP k => lv_lneg C.1 C.2.1 hd  k) k
theorem s_ldivC {x y : Int64} (hd : decode M.1 pc = .ok (.ldiv, 1)) (hne : ¬ y = 0) (k : aS l d M n0 S0 Φ (pc + 1) lv (.long (x / y) :: st) h e) : aS l d M n0 S0 Φ pc lv (.long y :: .long x :: st) h e := a_step (fun p e R s m args below meth c D dA b H locs cells slots Q ls C hl hP k => lv_ldiv C.1 C.2.1 hd hne k) k
theorem s_ldiv {x y : Int64} (hd : decode M.1 pc = .ok (.ldiv, 1)) (k : aS l d M n0 S0 Φ (pc + 1) lv (.long (x / y) :: st) h e) : aS l d M n0 S0 Φ pc lv (.long y :: .long x :: st) h (g_nzL y e) := fun z hz => s_ldivC hd (g_nzL_some hz).1 k z (g_nzL_some hz).2
theorem s_lremC {x y : Int64} (hd : decode M.1 pc = .ok (.lrem, 1)) (hne : ¬ y = 0) (k : aS l d M n0 S0 Φ (pc + 1) lv (.long (x - x / y * y) :: st) h e) : aS l d M n0 S0 Φ pc lv (.long y :: .long x :: st) h e := a_step (fun p e R s m args below meth c D dA b H locs cells slots Q ls C hl hP k => lv_lrem C.1 C.2.1 hd hne k) k
theorem s_lrem {x y : Int64} (hd : decode M.1 pc = .ok (.lrem, 1)) (k : aS l d M n0 S0 Φ (pc + 1) lv (.long (x - x / y * y) :: st) h e) : aS l d M n0 S0 Φ pc lv (.long y :: .long x :: st) h (g_nzL y e) := fun z hz => s_lremC hd (g_nzL_some hz).1 k z (g_nzL_some hz).2
theorem s_lshl {x : Int64} {y : Int32} (hd : decode M.1 pc = .ok (.lshl, 1)) (k : aS l d M n0 S0 Φ (pc + 1) lv (.long (x <<< (y.toInt64 &&& 63)) :: st) h e) : aS l d M n0 S0 Φ pc lv (.int y :: .long x :: st) h e := a_step (fun p e R s m args below meth c D dA b H locs cells slots Q ls C hl hP k => lv_lshl C.1 C.2.1 hd rfl k) k
theorem s_lshr {x : Int64} {y : Int32} (hd : decode M.1 pc = .ok (.lshr, 1)) (k : aS l d M n0 S0 Φ (pc + 1) lv (.long (x >>> (y.toInt64 &&& 63)) :: st) h e) : aS l d M n0 S0 Φ pc lv (.int y :: .long x :: st) h e := a_step (fun p e R s m args below meth c D dA b H locs cells slots Q ls C hl hP k => lv_lshr C.1 C.2.1 hd rfl k) k
theorem s_i2l {x : Int32} (hd : decode M.1 pc = .ok (.i2l, 1)) (k : aS l d M n0 S0 Φ (pc + 1) lv (.long x.toInt64 :: st) h e) : aS l d M n0 S0 Φ pc lv (.int x :: st) h e := a_step (fun p e R s m args below meth c D dA b H locs cells slots Q ls C hl hP k => lv_i2l C.1 C.2.1 hd rfl k) k
theorem s_l2i {x : Int64} (hd : decode M.1 pc = .ok (.l2i, 1)) (k : aS l d M n0 S0 Φ (pc + 1) lv (.int x.toInt32 :: st) h e) : aS l d M n0 S0 Φ pc lv (.long x :: st) h e := a_step (fun p e R s m args below meth c D dA b H locs cells slots Q ls C hl hP k => lv_l2i C.1 C.2.1 hd rfl k) k
theorem s_i2b {x : Int32} (hd : decode M.1 pc = .ok (.i2b, 1)) (k : aS l d M n0 S0 Φ (pc + 1) lv (.int x.toInt8.toInt32 :: st) h e) : aS l d M n0 S0 Φ pc lv (.int x :: st) h e := a_step (fun p e R s m args below meth c D dA b H locs cells slots Q ls C hl hP k => lv_i2b C.1 C.2.1 hd rfl k) k
theorem s_i2s {x : Int32} (hd : decode M.1 pc = .ok (.i2s, 1)) (k : aS l d M n0 S0 Φ (pc + 1) lv (.int x.toInt16.toInt32 :: st) h e) : aS l d M n0 S0 Φ pc lv (.int x :: st) h e := a_step (fun p e R s m args below meth c D dA b H locs cells slots Q ls C hl hP k => lv_i2s C.1 C.2.1 hd rfl k) k
theorem s_i2c {x : Int32} (hd : decode M.1 pc = .ok (.i2c, 1)) (k : aS l d M n0 S0 Φ (pc + 1) lv (.int (x.toUInt32 % 65536).toInt32 :: st) h e) : aS l d M n0 S0 Φ pc lv (.int x :: st) h e := a_step (fun p e R s m args below meth c D dA b H locs cells slots Q ls C hl hP k => lv_i2c C.1 C.2.1 hd rfl k) k
theorem s_dup {va : Value} (hd : decode M.1 pc = .ok (.dup, 1)) (hc : va.category = 1) (k : aS l d M n0 S0 Φ (pc + 1) lv (va :: va :: st) h e) : aS l d M n0 S0 Φ pc lv (va :: st) h e := a_step (fun p e R s m args below meth c D dA b H locs cells slots Q ls C hl hP k => lv_dup C.1 C.2.1 hd ((a_v_cat b va).trans hc) k) k
theorem s_pop {va : Value} (hd : decode M.1 pc = .ok (.pop, 1)) (hc : va.category = 1) (k : aS l d M n0 S0 Φ (pc + 1) lv (st) h e) : aS l d M n0 S0 Φ pc lv (va :: st) h e := a_step (fun p e R s m args below meth c D dA b H locs cells slots Q ls C hl hP k => lv_pop C.1 C.2.1 hd ((a_v_cat b va).trans hc) k) k
theorem s_dup2_11 {va vb : Value} (hd : decode M.1 pc = .ok (.dup2, 1)) (hc : va.category = 1) (hc2 : vb.category = 1) (k : aS l d M n0 S0 Φ (pc + 1) lv (va :: vb :: va :: vb :: st) h e) : aS l d M n0 S0 Φ pc lv (va :: vb :: st) h e := a_step (fun p e R s m args below meth c D dA b H locs cells slots Q ls C hl hP k => lv_dup2_11 C.1 C.2.1 hd ((a_v_cat b va).trans hc) ((a_v_cat b vb).trans hc2) k) k
theorem s_dup2_2 {va : Value} (hd : decode M.1 pc = .ok (.dup2, 1)) (hc : va.category = 2) (k : aS l d M n0 S0 Φ (pc + 1) lv (va :: va :: st) h e) : aS l d M n0 S0 Φ pc lv (va :: st) h e := a_step (fun p e R s m args below meth c D dA b H locs cells slots Q ls C hl hP k => lv_dup2_2 C.1 C.2.1 hd ((a_v_cat b va).trans hc) k) k
theorem s_pop2_2 {va : Value} (hd : decode M.1 pc = .ok (.pop2, 1)) (hc : va.category = 2) (k : aS l d M n0 S0 Φ (pc + 1) lv (st) h e) : aS l d M n0 S0 Φ pc lv (va :: st) h e := a_step (fun p e R s m args below meth c D dA b H locs cells slots Q ls C hl hP k => lv_pop2_2 C.1 C.2.1 hd ((a_v_cat b va).trans hc) k) k
theorem s_dup_x1 {va vb : Value} (hd : decode M.1 pc = .ok (.dup_x1, 1)) (hc : va.category = 1) (hc2 : vb.category = 1) (k : aS l d M n0 S0 Φ (pc + 1) lv (va :: vb :: va :: st) h e) : aS l d M n0 S0 Φ pc lv (va :: vb :: st) h e := a_step (fun p e R s m args below meth c D dA b H locs cells slots Q ls C hl hP k => lv_dup_x1 C.1 C.2.1 hd ((a_v_cat b va).trans hc) ((a_v_cat b vb).trans hc2) k) k
theorem s_ldc {index : Nat} {v : Int32} (hd : decode M.1 pc = .ok (.ldc index, 2)) (hw : Cond.constant M.2.1 index v ∈ gT) (k : aS l d M n0 S0 Φ (pc + 2) lv (.int v :: st) h e) : aS l d M n0 S0 Φ pc lv (st) h e := a_step (fun p e R s m args below meth c D dA b H locs cells slots Q ls C hl hP k => lv_ldc C.1 C.2.1 C.2.2.2.1 (C.2.2.2.2.1 _ hw) hd k) k
theorem s_ldcw {index : Nat} {v : Int32} (hd : decode M.1 pc = .ok (.ldc_w index, 3)) (hw : Cond.constant M.2.1 index v ∈ gT) (k : aS l d M n0 S0 Φ (pc + 3) lv (.int v :: st) h e) : aS l d M n0 S0 Φ pc lv (st) h e := a_step (fun p e R s m args below meth c D dA b H locs cells slots Q ls C hl hP k => lv_ldcw C.1 C.2.1 C.2.2.2.1 (C.2.2.2.2.1 _ hw) hd k) k
theorem s_ldc2 {index : Nat} {v : Int64} (hd : decode M.1 pc = .ok (.ldc2_w index, 3)) (hw : Cond.constantLong M.2.1 index v ∈ gT) (k : aS l d M n0 S0 Φ (pc + 3) lv (.long v :: st) h e) : aS l d M n0 S0 Φ pc lv (st) h e := a_step (fun p e R s m args below meth c D dA b H locs cells slots Q ls C hl hP k => lv_ldc2 C.1 C.2.1 C.2.2.2.1 (C.2.2.2.2.1 _ hw) hd k) k
theorem s_istore_n {k : Fin 4} {x : Int32} {lv' : List (Nat × Value)} (hd : decode M.1 pc = .ok (.istore_n k, 1)) (hn : (k : Nat) < M.2.2.1) (hs : ((k : Nat), Value.int x) :: lv.filter (fun q => !(q.1 == (k : Nat)) && !(q.1 + 1 == (k : Nat) && q.2.category == 2)) = lv') (k : aS l d M n0 S0 Φ (pc + 1) lv' st h e) : aS l d M n0 S0 Φ pc lv (.int x :: st) h e := a_stepL (fun p e R s m args below meth c D dA b H locs cells slots Q ls C hl k => lv_istore_n C.1 C.2.1 hd rfl hl hn (a_lv_st hs) k) k
theorem s_istore {i : Nat} {x : Int32} {lv' : List (Nat × Value)} (hd : decode M.1 pc = .ok (.istore i, 2)) (hn : i < M.2.2.1) (hs : (i, Value.int x) :: lv.filter (fun q => !(q.1 == i) && !(q.1 + 1 == i && q.2.category == 2)) = lv') (k : aS l d M n0 S0 Φ (pc + 2) lv' st h e) : aS l d M n0 S0 Φ pc lv (.int x :: st) h e := a_stepL (fun p e R s m args below meth c D dA b H locs cells slots Q ls C hl k => lv_istore C.1 C.2.1 hd hl hn (a_lv_st hs) k) k
theorem s_astore_n {k : Fin 4} {x : Nat} {lv' : List (Nat × Value)} (hd : decode M.1 pc = .ok (.astore_n k, 1)) (hn : (k : Nat) < M.2.2.1) (hs : ((k : Nat), Value.ref x) :: lv.filter (fun q => !(q.1 == (k : Nat)) && !(q.1 + 1 == (k : Nat) && q.2.category == 2)) = lv') (k : aS l d M n0 S0 Φ (pc + 1) lv' st h e) : aS l d M n0 S0 Φ pc lv (.ref x :: st) h e := a_stepL (fun p e R s m args below meth c D dA b H locs cells slots Q ls C hl k => lv_astore_n C.1 C.2.1 hd rfl hl hn (a_lv_st hs) k) k
theorem s_astore {i : Nat} {x : Nat} {lv' : List (Nat × Value)} (hd : decode M.1 pc = .ok (.astore i, 2)) (hn : i < M.2.2.1) (hs : (i, Value.ref x) :: lv.filter (fun q => !(q.1 == i) && !(q.1 + 1 == i && q.2.category == 2)) = lv') (k : aS l d M n0 S0 Φ (pc + 2) lv' st h e) : aS l d M n0 S0 Φ pc lv (.ref x :: st) h e := a_stepL (fun p e R s m args below meth c D dA b H locs cells slots Q ls C hl k => lv_astore C.1 C.2.1 hd hl hn (a_lv_st hs) k) k
theorem s_astore_nN {k : Fin 4} {lv' : List (Nat × Value)} (hd : decode M.1 pc = .ok (.astore_n k, 1)) (hn : (k : Nat) < M.2.2.1) (hs : ((k : Nat), Value.null) :: lv.filter (fun q => !(q.1 == (k : Nat)) && !(q.1 + 1 == (k : Nat) && q.2.category == 2)) = lv') (k : aS l d M n0 S0 Φ (pc + 1) lv' st h e) : aS l d M n0 S0 Φ pc lv (.null :: st) h e := a_stepL (fun p e R s m args below meth c D dA b H locs cells slots Q ls C hl k => lv_astore_nN C.1 C.2.1 hd rfl hl hn (a_lv_st hs) k) k
theorem s_astoreN {i : Nat} {lv' : List (Nat × Value)} (hd : decode M.1 pc = .ok (.astore i, 2)) (hn : i < M.2.2.1) (hs : (i, Value.null) :: lv.filter (fun q => !(q.1 == i) && !(q.1 + 1 == i && q.2.category == 2)) = lv') (k : aS l d M n0 S0 Φ (pc + 2) lv' st h e) : aS l d M n0 S0 Φ pc lv (.null :: st) h e := a_stepL (fun p e R s m args below meth c D dA b H locs cells slots Q ls C hl k => lv_astoreN C.1 C.2.1 hd hl hn (a_lv_st hs) k) k
theorem s_lstore_n {k : Fin 4} {x : Int64} {lv' : List (Nat × Value)} (hd : decode M.1 pc = .ok (.lstore_n k, 1)) (hn : (k : Nat) + 1 < M.2.2.1) (hs : ((k : Nat), Value.long x) :: lv.filter (fun q => !(q.1 == (k : Nat)) && (!(q.1 == (k : Nat) + 1) && !(q.1 + 1 == (k : Nat) && q.2.category == 2))) = lv') (k : aS l d M n0 S0 Φ (pc + 1) lv' st h e) : aS l d M n0 S0 Φ pc lv (.long x :: st) h e := a_stepL (fun p e R s m args below meth c D dA b H locs cells slots Q ls C hl k => lv_lstore_n C.1 C.2.1 hd rfl hl hn (a_lv_st2 hs) k) k
theorem s_lstore {i : Nat} {x : Int64} {lv' : List (Nat × Value)} (hd : decode M.1 pc = .ok (.lstore i, 2)) (hn : i + 1 < M.2.2.1) (hs : (i, Value.long x) :: lv.filter (fun q => !(q.1 == i) && (!(q.1 == i + 1) && !(q.1 + 1 == i && q.2.category == 2))) = lv') (k : aS l d M n0 S0 Φ (pc + 2) lv' st h e) : aS l d M n0 S0 Φ pc lv (.long x :: st) h e := a_stepL (fun p e R s m args below meth c D dA b H locs cells slots Q ls C hl k => lv_lstore C.1 C.2.1 hd hl hn (a_lv_st2 hs) k) k
theorem s_iinc (k0 : Nat) {i : Nat} {n : Int} {x v : Int32} {lv' : List (Nat × Value)} (hd : decode M.1 pc = .ok (.iinc i n, 3)) (hk : lv[k0]? = some (i, .int x)) (hv : Int32.ofInt n = v) (hn : i < M.2.2.1) (hs : (i, Value.int (x + v)) :: lv.filter (fun q => !(q.1 == i) && !(q.1 + 1 == i && q.2.category == 2)) = lv') (k : aS l d M n0 S0 Φ (pc + 3) lv' st h e) : aS l d M n0 S0 Φ pc lv st h e := a_stepL (fun p e R s m args below meth c D dA b H locs cells slots Q ls C hl k => lv_iinc (k := k0) (x := x) (v := x + v) C.1 C.2.1 hd hl (by rw [List.getElem?_map, hk]; rfl) (by rw [hv]) hn (a_lv_st (v := .int (x + v)) hs) k) k
theorem s_goto {off : Int} {tgt : Nat} (hd : decode M.1 pc = .ok (.goto off, 3)) (ht : (pc : Int) + off = (tgt : Int)) (k : aS l d M n0 S0 Φ tgt lv st h e) : aS l d M n0 S0 Φ pc lv st h e := a_step (fun p e R s m args below meth c D dA b H locs cells slots Q ls C hl hP k => lv_goto C.1 C.2.1 hd ht k) k
theorem s_if_eq {x : Int32} {off : Int} {tgt : Nat} (hd : decode M.1 pc = .ok (.ifCond .eq off, 3)) (ht : (pc : Int) + off = (tgt : Int)) (k1 : x = 0 → aS l d M n0 S0 Φ tgt lv st h e1) (k2 : ¬ x = 0 → aS l d M n0 S0 Φ (pc + 3) lv st h e2) : aS l d M n0 S0 Φ pc lv (.int x :: st) h (if x = 0 then e1 else e2) := by
  intro z hz r h' hr
  by_cases cc : x = 0
  · rw [if_pos cc] at hz
    have q := k1 cc z hz r h' hr
    exact ⟨q.1, q.2.1, fun p e s m args below meth c D dA b H locs ls C hs hn hS hl hP hQ => lv_if_eq C.1 C.2.1 hd ht (fun _ => q.2.2 p e s m args below meth c D dA b H locs ls C hs hn hS hl hP hQ) (fun no => absurd cc no)⟩
  · rw [if_neg cc] at hz
    have q := k2 cc z hz r h' hr
    exact ⟨q.1, q.2.1, fun p e s m args below meth c D dA b H locs ls C hs hn hS hl hP hQ => lv_if_eq C.1 C.2.1 hd ht (fun yes => absurd yes cc) (fun _ => q.2.2 p e s m args below meth c D dA b H locs ls C hs hn hS hl hP hQ)⟩
theorem s_if_ne {x : Int32} {off : Int} {tgt : Nat} (hd : decode M.1 pc = .ok (.ifCond .ne off, 3)) (ht : (pc : Int) + off = (tgt : Int)) (k1 : x = 0 → aS l d M n0 S0 Φ (pc + 3) lv st h e1) (k2 : ¬ x = 0 → aS l d M n0 S0 Φ tgt lv st h e2) : aS l d M n0 S0 Φ pc lv (.int x :: st) h (if x = 0 then e1 else e2) := by
  intro z hz r h' hr
  by_cases cc : x = 0
  · rw [if_pos cc] at hz
    have q := k1 cc z hz r h' hr
    exact ⟨q.1, q.2.1, fun p e s m args below meth c D dA b H locs ls C hs hn hS hl hP hQ => lv_if_ne C.1 C.2.1 hd ht (fun no => absurd cc no) (fun _ => q.2.2 p e s m args below meth c D dA b H locs ls C hs hn hS hl hP hQ)⟩
  · rw [if_neg cc] at hz
    have q := k2 cc z hz r h' hr
    exact ⟨q.1, q.2.1, fun p e s m args below meth c D dA b H locs ls C hs hn hS hl hP hQ => lv_if_ne C.1 C.2.1 hd ht (fun _ => q.2.2 p e s m args below meth c D dA b H locs ls C hs hn hS hl hP hQ) (fun yes => absurd yes cc)⟩
theorem s_if_lt {x : Int32} {off : Int} {tgt : Nat} (hd : decode M.1 pc = .ok (.ifCond .lt off, 3)) (ht : (pc : Int) + off = (tgt : Int)) (k1 : x < 0 → aS l d M n0 S0 Φ tgt lv st h e1) (k2 : ¬ x < 0 → aS l d M n0 S0 Φ (pc + 3) lv st h e2) : aS l d M n0 S0 Φ pc lv (.int x :: st) h (if x < 0 then e1 else e2) := by
  intro z hz r h' hr
  by_cases cc : x < 0
  · rw [if_pos cc] at hz
    have q := k1 cc z hz r h' hr
    exact ⟨q.1, q.2.1, fun p e s m args below meth c D dA b H locs ls C hs hn hS hl hP hQ => lv_if_lt C.1 C.2.1 hd ht (fun _ => q.2.2 p e s m args below meth c D dA b H locs ls C hs hn hS hl hP hQ) (fun no => absurd cc no)⟩
  · rw [if_neg cc] at hz
    have q := k2 cc z hz r h' hr
    exact ⟨q.1, q.2.1, fun p e s m args below meth c D dA b H locs ls C hs hn hS hl hP hQ => lv_if_lt C.1 C.2.1 hd ht (fun yes => absurd yes cc) (fun _ => q.2.2 p e s m args below meth c D dA b H locs ls C hs hn hS hl hP hQ)⟩
theorem s_if_ge {x : Int32} {off : Int} {tgt : Nat} (hd : decode M.1 pc = .ok (.ifCond .ge off, 3)) (ht : (pc : Int) + off = (tgt : Int)) (k1 : 0 ≤ x → aS l d M n0 S0 Φ tgt lv st h e1) (k2 : ¬ 0 ≤ x → aS l d M n0 S0 Φ (pc + 3) lv st h e2) : aS l d M n0 S0 Φ pc lv (.int x :: st) h (if 0 ≤ x then e1 else e2) := by
  intro z hz r h' hr
  by_cases cc : 0 ≤ x
  · rw [if_pos cc] at hz
    have q := k1 cc z hz r h' hr
    exact ⟨q.1, q.2.1, fun p e s m args below meth c D dA b H locs ls C hs hn hS hl hP hQ => lv_if_ge C.1 C.2.1 hd ht (fun _ => q.2.2 p e s m args below meth c D dA b H locs ls C hs hn hS hl hP hQ) (fun no => absurd cc no)⟩
  · rw [if_neg cc] at hz
    have q := k2 cc z hz r h' hr
    exact ⟨q.1, q.2.1, fun p e s m args below meth c D dA b H locs ls C hs hn hS hl hP hQ => lv_if_ge C.1 C.2.1 hd ht (fun yes => absurd yes cc) (fun _ => q.2.2 p e s m args below meth c D dA b H locs ls C hs hn hS hl hP hQ)⟩
theorem s_if_gt {x : Int32} {off : Int} {tgt : Nat} (hd : decode M.1 pc = .ok (.ifCond .gt off, 3)) (ht : (pc : Int) + off = (tgt : Int)) (k1 : 0 < x → aS l d M n0 S0 Φ tgt lv st h e1) (k2 : ¬ 0 < x → aS l d M n0 S0 Φ (pc + 3) lv st h e2) : aS l d M n0 S0 Φ pc lv (.int x :: st) h (if 0 < x then e1 else e2) := by
  intro z hz r h' hr
  by_cases cc : 0 < x
  · rw [if_pos cc] at hz
    have q := k1 cc z hz r h' hr
    exact ⟨q.1, q.2.1, fun p e s m args below meth c D dA b H locs ls C hs hn hS hl hP hQ => lv_if_gt C.1 C.2.1 hd ht (fun _ => q.2.2 p e s m args below meth c D dA b H locs ls C hs hn hS hl hP hQ) (fun no => absurd cc no)⟩
  · rw [if_neg cc] at hz
    have q := k2 cc z hz r h' hr
    exact ⟨q.1, q.2.1, fun p e s m args below meth c D dA b H locs ls C hs hn hS hl hP hQ => lv_if_gt C.1 C.2.1 hd ht (fun yes => absurd yes cc) (fun _ => q.2.2 p e s m args below meth c D dA b H locs ls C hs hn hS hl hP hQ)⟩
theorem s_if_le {x : Int32} {off : Int} {tgt : Nat} (hd : decode M.1 pc = .ok (.ifCond .le off, 3)) (ht : (pc : Int) + off = (tgt : Int)) (k1 : x ≤ 0 → aS l d M n0 S0 Φ tgt lv st h e1) (k2 : ¬ x ≤ 0 → aS l d M n0 S0 Φ (pc + 3) lv st h e2) : aS l d M n0 S0 Φ pc lv (.int x :: st) h (if x ≤ 0 then e1 else e2) := by
  intro z hz r h' hr
  by_cases cc : x ≤ 0
  · rw [if_pos cc] at hz
    have q := k1 cc z hz r h' hr
    exact ⟨q.1, q.2.1, fun p e s m args below meth c D dA b H locs ls C hs hn hS hl hP hQ => lv_if_le C.1 C.2.1 hd ht (fun _ => q.2.2 p e s m args below meth c D dA b H locs ls C hs hn hS hl hP hQ) (fun no => absurd cc no)⟩
  · rw [if_neg cc] at hz
    have q := k2 cc z hz r h' hr
    exact ⟨q.1, q.2.1, fun p e s m args below meth c D dA b H locs ls C hs hn hS hl hP hQ => lv_if_le C.1 C.2.1 hd ht (fun yes => absurd yes cc) (fun _ => q.2.2 p e s m args below meth c D dA b H locs ls C hs hn hS hl hP hQ)⟩
theorem s_icmp_eq {x y : Int32} {off : Int} {tgt : Nat} (hd : decode M.1 pc = .ok (.if_icmp .eq off, 3)) (ht : (pc : Int) + off = (tgt : Int)) (k1 : x = y → aS l d M n0 S0 Φ tgt lv st h e1) (k2 : ¬ x = y → aS l d M n0 S0 Φ (pc + 3) lv st h e2) : aS l d M n0 S0 Φ pc lv (.int y :: .int x :: st) h (if x = y then e1 else e2) := by
  intro z hz r h' hr
  by_cases cc : x = y
  · rw [if_pos cc] at hz
    have q := k1 cc z hz r h' hr
    exact ⟨q.1, q.2.1, fun p e s m args below meth c D dA b H locs ls C hs hn hS hl hP hQ => lv_icmp_eq C.1 C.2.1 hd ht (fun _ => q.2.2 p e s m args below meth c D dA b H locs ls C hs hn hS hl hP hQ) (fun no => absurd cc no)⟩
  · rw [if_neg cc] at hz
    have q := k2 cc z hz r h' hr
    exact ⟨q.1, q.2.1, fun p e s m args below meth c D dA b H locs ls C hs hn hS hl hP hQ => lv_icmp_eq C.1 C.2.1 hd ht (fun yes => absurd yes cc) (fun _ => q.2.2 p e s m args below meth c D dA b H locs ls C hs hn hS hl hP hQ)⟩
theorem s_icmp_ne {x y : Int32} {off : Int} {tgt : Nat} (hd : decode M.1 pc = .ok (.if_icmp .ne off, 3)) (ht : (pc : Int) + off = (tgt : Int)) (k1 : x = y → aS l d M n0 S0 Φ (pc + 3) lv st h e1) (k2 : ¬ x = y → aS l d M n0 S0 Φ tgt lv st h e2) : aS l d M n0 S0 Φ pc lv (.int y :: .int x :: st) h (if x = y then e1 else e2) := by
  intro z hz r h' hr
  by_cases cc : x = y
  · rw [if_pos cc] at hz
    have q := k1 cc z hz r h' hr
    exact ⟨q.1, q.2.1, fun p e s m args below meth c D dA b H locs ls C hs hn hS hl hP hQ => lv_icmp_ne C.1 C.2.1 hd ht (fun no => absurd cc no) (fun _ => q.2.2 p e s m args below meth c D dA b H locs ls C hs hn hS hl hP hQ)⟩
  · rw [if_neg cc] at hz
    have q := k2 cc z hz r h' hr
    exact ⟨q.1, q.2.1, fun p e s m args below meth c D dA b H locs ls C hs hn hS hl hP hQ => lv_icmp_ne C.1 C.2.1 hd ht (fun _ => q.2.2 p e s m args below meth c D dA b H locs ls C hs hn hS hl hP hQ) (fun yes => absurd yes cc)⟩
theorem s_icmp_lt {x y : Int32} {off : Int} {tgt : Nat} (hd : decode M.1 pc = .ok (.if_icmp .lt off, 3)) (ht : (pc : Int) + off = (tgt : Int)) (k1 : x < y → aS l d M n0 S0 Φ tgt lv st h e1) (k2 : ¬ x < y → aS l d M n0 S0 Φ (pc + 3) lv st h e2) : aS l d M n0 S0 Φ pc lv (.int y :: .int x :: st) h (if x < y then e1 else e2) := by
  intro z hz r h' hr
  by_cases cc : x < y
  · rw [if_pos cc] at hz
    have q := k1 cc z hz r h' hr
    exact ⟨q.1, q.2.1, fun p e s m args below meth c D dA b H locs ls C hs hn hS hl hP hQ => lv_icmp_lt C.1 C.2.1 hd ht (fun _ => q.2.2 p e s m args below meth c D dA b H locs ls C hs hn hS hl hP hQ) (fun no => absurd cc no)⟩
  · rw [if_neg cc] at hz
    have q := k2 cc z hz r h' hr
    exact ⟨q.1, q.2.1, fun p e s m args below meth c D dA b H locs ls C hs hn hS hl hP hQ => lv_icmp_lt C.1 C.2.1 hd ht (fun yes => absurd yes cc) (fun _ => q.2.2 p e s m args below meth c D dA b H locs ls C hs hn hS hl hP hQ)⟩
theorem s_icmp_ge {x y : Int32} {off : Int} {tgt : Nat} (hd : decode M.1 pc = .ok (.if_icmp .ge off, 3)) (ht : (pc : Int) + off = (tgt : Int)) (k1 : y ≤ x → aS l d M n0 S0 Φ tgt lv st h e1) (k2 : ¬ y ≤ x → aS l d M n0 S0 Φ (pc + 3) lv st h e2) : aS l d M n0 S0 Φ pc lv (.int y :: .int x :: st) h (if y ≤ x then e1 else e2) := by
  intro z hz r h' hr
  by_cases cc : y ≤ x
  · rw [if_pos cc] at hz
    have q := k1 cc z hz r h' hr
    exact ⟨q.1, q.2.1, fun p e s m args below meth c D dA b H locs ls C hs hn hS hl hP hQ => lv_icmp_ge C.1 C.2.1 hd ht (fun _ => q.2.2 p e s m args below meth c D dA b H locs ls C hs hn hS hl hP hQ) (fun no => absurd cc no)⟩
  · rw [if_neg cc] at hz
    have q := k2 cc z hz r h' hr
    exact ⟨q.1, q.2.1, fun p e s m args below meth c D dA b H locs ls C hs hn hS hl hP hQ => lv_icmp_ge C.1 C.2.1 hd ht (fun yes => absurd yes cc) (fun _ => q.2.2 p e s m args below meth c D dA b H locs ls C hs hn hS hl hP hQ)⟩
theorem s_icmp_gt {x y : Int32} {off : Int} {tgt : Nat} (hd : decode M.1 pc = .ok (.if_icmp .gt off, 3)) (ht : (pc : Int) + off = (tgt : Int)) (k1 : y < x → aS l d M n0 S0 Φ tgt lv st h e1) (k2 : ¬ y < x → aS l d M n0 S0 Φ (pc + 3) lv st h e2) : aS l d M n0 S0 Φ pc lv (.int y :: .int x :: st) h (if y < x then e1 else e2) := by
  intro z hz r h' hr
  by_cases cc : y < x
  · rw [if_pos cc] at hz
    have q := k1 cc z hz r h' hr
    exact ⟨q.1, q.2.1, fun p e s m args below meth c D dA b H locs ls C hs hn hS hl hP hQ => lv_icmp_gt C.1 C.2.1 hd ht (fun _ => q.2.2 p e s m args below meth c D dA b H locs ls C hs hn hS hl hP hQ) (fun no => absurd cc no)⟩
  · rw [if_neg cc] at hz
    have q := k2 cc z hz r h' hr
    exact ⟨q.1, q.2.1, fun p e s m args below meth c D dA b H locs ls C hs hn hS hl hP hQ => lv_icmp_gt C.1 C.2.1 hd ht (fun yes => absurd yes cc) (fun _ => q.2.2 p e s m args below meth c D dA b H locs ls C hs hn hS hl hP hQ)⟩
theorem s_icmp_le {x y : Int32} {off : Int} {tgt : Nat} (hd : decode M.1 pc = .ok (.if_icmp .le off, 3)) (ht : (pc : Int) + off = (tgt : Int)) (k1 : x ≤ y → aS l d M n0 S0 Φ tgt lv st h e1) (k2 : ¬ x ≤ y → aS l d M n0 S0 Φ (pc + 3) lv st h e2) : aS l d M n0 S0 Φ pc lv (.int y :: .int x :: st) h (if x ≤ y then e1 else e2) := by
  intro z hz r h' hr
  by_cases cc : x ≤ y
  · rw [if_pos cc] at hz
    have q := k1 cc z hz r h' hr
    exact ⟨q.1, q.2.1, fun p e s m args below meth c D dA b H locs ls C hs hn hS hl hP hQ => lv_icmp_le C.1 C.2.1 hd ht (fun _ => q.2.2 p e s m args below meth c D dA b H locs ls C hs hn hS hl hP hQ) (fun no => absurd cc no)⟩
  · rw [if_neg cc] at hz
    have q := k2 cc z hz r h' hr
    exact ⟨q.1, q.2.1, fun p e s m args below meth c D dA b H locs ls C hs hn hS hl hP hQ => lv_icmp_le C.1 C.2.1 hd ht (fun yes => absurd yes cc) (fun _ => q.2.2 p e s m args below meth c D dA b H locs ls C hs hn hS hl hP hQ)⟩
theorem b2i_0 {b : Bool} : b2i b = 0 ↔ b = false := by cases b <;> decide
theorem s_if_eqB {x : Bool} {off : Int} {tgt : Nat} (hd : decode M.1 pc = .ok (.ifCond .eq off, 3)) (ht : (pc : Int) + off = (tgt : Int)) (k1 : x = true → aS l d M n0 S0 Φ (pc + 3) lv st h e1) (k2 : x = false → aS l d M n0 S0 Φ tgt lv st h e2) : aS l d M n0 S0 Φ pc lv (.int (b2i x) :: st) h (if x = true then e1 else e2) := by
  intro z hz
  cases x with
  | true => exact s_if_eq (e1 := none) hd ht (fun c => absurd c (by decide)) (fun _ => k1 rfl) z (by rw [if_neg (by decide)]; exact hz)
  | false => exact s_if_eq (e2 := none) hd ht (fun _ => k2 rfl) (fun c => absurd (by decide) c) z (by rw [if_pos (by decide)]; exact hz)
theorem s_if_neB {x : Bool} {off : Int} {tgt : Nat} (hd : decode M.1 pc = .ok (.ifCond .ne off, 3)) (ht : (pc : Int) + off = (tgt : Int)) (k1 : x = true → aS l d M n0 S0 Φ tgt lv st h e1) (k2 : x = false → aS l d M n0 S0 Φ (pc + 3) lv st h e2) : aS l d M n0 S0 Φ pc lv (.int (b2i x) :: st) h (if x = true then e1 else e2) := by
  intro z hz
  cases x with
  | true => exact s_if_ne (e1 := none) hd ht (fun c => absurd c (by decide)) (fun _ => k1 rfl) z (by rw [if_neg (by decide)]; exact hz)
  | false => exact s_if_ne (e2 := none) hd ht (fun _ => k2 rfl) (fun c => absurd (by decide) c) z (by rw [if_pos (by decide)]; exact hz)
def lcmpv (x y : Int64) : Int32 := if x < y then -1 else if x = y then 0 else 1
end aRules
