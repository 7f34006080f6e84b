/-! THE LAW'S FRAME -/
def lM : aM := (code, RL, 4, ret, false)
def lJ (p : Program) (l : Launch) (e : Env) (s : State) (m : MethodId) (below : List Frame) (meth : Method) (c : Code) (b : Nat) (D : va_G) (dA : Nat → ClassId) (i : Int32) (h : aH) (pc : Nat) (st : List Value) : Prop := ∀ (H : Heap) (locs : List Loc) (ls : Array Slot), lv_has ls 4 [(3, .int i), (0, .ref b), (1, .ref s.heap.size), (2, .ref (s.heap.size + 138))] → va_P D vwCl (a_w s.heap.size dA h) H → va_S (fun q => s.heap.size ≤ q) s.heap H locs → W p l e room_1 s m #[Value.ref b] below meth c H locs h.2.1 h.2.2 (lw_Z below #[Value.ref b] s) (F0 m pc ls st)
def lC (p : Program) (s : State) (m : MethodId) (meth : Method) (c : Code) (b L : Nat) (xs : Nat → Int32) (D : va_G) (dA : Nat → ClassId) : Prop := lw_At p s m meth c b L xs ∧ a_Cx p s m #[Value.ref b] meth c D dA lM
section L
variable {p : Program} {l : Launch} {e : Env} {s : State} {m : MethodId} {below : List Frame} {meth : Method} {c : Code} {b L : Nat} {xs : Nat → Int32} {D : va_G} {dA : Nat → ClassId} {i : Int32} {h : aH} {pc : Nat} {st : List Value}
theorem l_1 (C : lC p s m meth c b L xs D dA) (hd : decode code pc = .ok (.aload_n 1, 1)) (k : lJ p l e s m below meth c b D dA i h (pc + 1) (.ref s.heap.size :: st)) : lJ p l e s m below meth c b D dA i h pc st := fun H locs ls hl hP hS => lv_aload_n C.2.1 C.2.2.1 hd rfl (lv_at hl 2 rfl) (k H locs ls hl hP hS)
theorem l_2 (C : lC p s m meth c b L xs D dA) (hd : decode code pc = .ok (.aload_n 2, 1)) (k : lJ p l e s m below meth c b D dA i h (pc + 1) (.ref (s.heap.size + 138) :: st)) : lJ p l e s m below meth c b D dA i h pc st := fun H locs ls hl hP hS => lv_aload_n C.2.1 C.2.2.1 hd rfl (lv_at hl 3 rfl) (k H locs ls hl hP hS)
theorem l_i2l (C : lC p s m meth c b L xs D dA) {x : Int32} (hd : decode code pc = .ok (.i2l, 1)) (k : lJ p l e s m below meth c b D dA i h (pc + 1) (.long x.toInt64 :: st)) : lJ p l e s m below meth c b D dA i h pc (.int x :: st) := fun H locs ls hl hP hS => lv_i2l C.2.1 C.2.2.1 hd rfl (k H locs ls hl hP hS)
theorem ll_shl (C : lC p s m meth c b L xs D dA) {x : Int64} (hd : decode code pc = .ok (.bipush 32, 2)) (hd2 : decode code (pc + 2) = .ok (.lshl, 1)) (k : lJ p l e s m below meth c b D dA i h (pc + 3) (.long (x <<< ((32 : Int32).toInt64 &&& 63)) :: st)) : lJ p l e s m below meth c b D dA i h pc (.long x :: st) := fun H locs ls hl hP hS => lv_bipush (v := 32) C.2.1 C.2.2.1 hd (by decide) (lv_lshl C.2.1 C.2.2.1 hd2 rfl (k H locs ls hl hP hS))
theorem ll_or (C : lC p s m meth c b L xs D dA) {x y : Int64} (hd : decode code pc = .ok (.ldc2_w 32, 3)) (hd2 : decode code (pc + 3) = .ok (.land, 1)) (hd3 : decode code (pc + 4) = .ok (.lor, 1)) (k : lJ p l e s m below meth c b D dA i h (pc + 5) (.long (x ||| (y &&& 4294967295)) :: st)) : lJ p l e s m below meth c b D dA i h pc (.long y :: .long x :: st) := fun H locs ls hl hP hS => lv_ldc2 C.2.1 C.2.2.1 C.2.2.2.2.1 (C.2.2.2.2.2.1 _ wk_L_32) hd (lv_land C.2.1 C.2.2.1 hd2 (lv_lor C.2.1 C.2.2.1 hd3 (k H locs ls hl hP hS)))
/-- the int at i + n of the script -/
theorem l_arg (C : lC p s m meth c b L xs D dA) (hL : L ≤ 3072) {n iN : Nat} {nz : Int} (hi : i = nI iN) (hin : iN + n < L) (hnz : Int32.ofInt nz = nI n) (d0 : decode code pc = .ok (.aload_n 0, 1)) (d1 : decode code (pc + 1) = .ok (.iload_n 3, 1)) (d2 : decode code (pc + 2) = .ok (.iconst nz, 1)) (d3 : decode code (pc + 3) = .ok (.iadd, 1)) (d4 : decode code (pc + 4) = .ok (.iaload, 1)) (k : lJ p l e s m below meth c b D dA i h (pc + 5) (.int (xs (iN + n)) :: st)) : lJ p l e s m below meth c b D dA i h pc st := by
  intro H locs ls hl hP hS
  have e1 : i + Int32.ofInt nz = nI (iN + n) := by rw [hi, hnz]; exact nI_add iN n
  refine lv_aload_n C.2.1 C.2.2.1 d0 rfl (lv_at hl 1 rfl) (lv_iload_n C.2.1 C.2.2.1 d1 rfl (lv_at hl 0 rfl) (lv_iconst C.2.1 C.2.2.1 d2 rfl (lv_iadd C.2.1 C.2.2.1 d3 ?_)))
  rw [e1]
  refine va_sld C.2.1 C.2.2.1 C.1.2.2.2.2.2.2.1 C.1.2.2.2.2.2.2.2.1 (Nat.not_le.mpr C.1.2.2.2.2.2.2.2.1) hS (vp_in_nI hin (by omega)) d4 ?_
  rw [nI_clamp (by omega)]
  exact k H locs ls hl hP hS
/-- a call -/
theorem l_call (C : lC p s m meth c b L xs D dA) {d' index ci np a nL : Nat} {y : MethodName} {cc : ByteArray} {rt : Option FieldType} {As fs : List Value} {h1 : aH} {r1 : Option Value} {stk : List Value} (hf : a_CV RL index ci y cc nL rt np) (hdp : d' ≤ 300) (hd : decode code pc = .ok (.invokevirtual index, 3)) (hc : h.1 a = .inr (ci, fs)) (ha : a < h.2.1) (hlen : As.length = np) (hr : (st.map (fun v => v.category)).sum ≤ 8) (hm : aMet l d' y cc nL rt (.ref a :: As) h r1 h1) (hR1 : h1.2.1 ≤ 600000) (hR2 : h1.2.2 ≤ 7302250) (hst : stk = (As.reverse ++ .ref a :: st).map (a_v s.heap.size)) (k : lJ p l e s m below meth c b D dA i h1 (pc + 3) ((r1.toList ++ st).map (a_v s.heap.size))) : lJ p l e s m below meth c b D dA i h pc stk := by
  subst hst
  intro H locs ls hl hP hQ T hT X
  obtain ⟨m1, m2, m3⟩ := hm
  obtain ⟨hB, hi, hse, q, hq, hqc⟩ := hf
  obtain ⟨A, C⟩ := C
  have hsz := a_size (n0 := 0) X hT rfl (Nat.zero_le _) hP
  have hCB : CallB room_1 s #[Value.ref b] RL index y cc nL rt (.code y cc nL rt :: gT) (a_R d' (h1.2.1 - h.2.1) (h1.2.2 - h.2.2)) (h1.2.1 - h.2.1) (h1.2.2 - h.2.2) np := by
    obtain ⟨g1, g2, g3, g4, g5⟩ := hB
    refine callB_of np C.2.2.2.2.1 (gT_in (fun _ h => h) g2) rfl rfl rfl (C.2.2.2.2.1 _ g3) (C.2.2.2.2.1 _ g1) g5 ⟨?_, ?_⟩
    · show d' + 1 ≤ 2048
      omega
    · show 8 + (nL + 11) + 64 * d' ≤ 84000
      omega
  refine a_after (n0 := 0) (S0 := 0) (st := st) (va_runV (C := y.cls) (As := As.map (a_v s.heap.size)) (b := s.heap.size + a) ⟨C.1, C.2.1, C.2.2.1, C.2.2.2.1, C.2.2.2.2.1⟩ (m3 D dA s.heap.size) ⟨hCB, C.2.2.2.2.1 _ hi, C.2.2.2.2.1 _ hse⟩ ⟨a_blind (b := s.heap.size), ?_, fun U hU hW => ⟨rfl, by rw [hU]; exact hsz, by rw [hU]; exact hP, va_K.moved hW.alike C.2.2.2.2.2.2.2.2.2, fun w hw => gN_warm hW w hw (C.2.2.2.2.2.1 w hw)⟩⟩ rfl (by rw [List.length_map]; exact hlen) hl.1 (by simp [List.map_append, List.map_reverse, a_v]) (a_room hr) hd ⟨by show h.2.1 - 0 + _ ≤ 600000; omega, by show h.2.2 - 0 + _ ≤ 7302250; omega⟩) m1 m2 (Nat.zero_le _) (Nat.zero_le _) hQ (fun H1 locs1 hP1 hQ1 => k H1 locs1 ls hl hP1 hQ1) T hT X
  have := va_recv C.2.2.2.2.2.2.2.2.2 hP hq (q0 := a) (fs := fs.map (a_v s.heap.size)) (by rw [a_w_at ha, hc]; rfl)
  rw [hqc] at this
  exact this
theorem l_eqI (C : lC p s m meth c b L xs D dA) {x : Int32} {off : Int} (hd : decode code pc = .ok (.if_icmp .eq off, 3)) (ht : (pc : Int) + off = (1673 : Nat)) (k : lJ p l e s m below meth c b D dA i h 1673 st) : lJ p l e s m below meth c b D dA i h pc (.int x :: .int x :: st) := fun H locs ls hl hP hS => lv_icmp_eq C.2.1 C.2.2.1 hd ht (fun _ => k H locs ls hl hP hS) (fun q => absurd rfl q)
theorem l_eqL (C : lC p s m meth c b L xs D dA) {x : Int64} {off : Int} (hd0 : decode code pc = .ok (.lcmp, 1)) (hd : decode code (pc + 1) = .ok (.ifCond .eq off, 3)) (ht : ((pc + 1 : Nat) : Int) + off = (1673 : Nat)) (k : lJ p l e s m below meth c b D dA i h 1673 st) : lJ p l e s m below meth c b D dA i h pc (.long x :: .long x :: st) := fun H locs ls hl hP hS => W.lcmp C.2.1 C.2.2.1 hd0 (lv_if_eq C.2.1 C.2.2.1 hd ht (fun _ => k H locs ls hl hP hS) (fun q => absurd (by unfold lg_cmp; simp) q))
/-- what the world has of both -/
theorem iv_rm {b0 mo k : Nat} {H : aH} (hI : INV b0 mo k H) (hk : k ≤ 512) : H.2.1 ≤ 600000 ∧ H.2.2 ≤ 7302250 := by
  obtain ⟨Ω, c, hO, hh, hV, hr1, hr2⟩ := hI
  obtain ⟨q1, b4, st, q2, q3, q4, q5, q6⟩ := hV.2.2.1
  have : 2 ^ c ≤ 2 ^ 16 := Nat.pow_le_pow_right (by decide) q6
  omega
theorem iv_rc {b0 mo k : Nat} {H : aH} (hI : INV b0 mo k H) : b0 < H.2.1 ∧ ∃ fs, H.1 b0 = .inr (11, fs) := by
  obtain ⟨Ω, c, hO, hh, hV, hr1, hr2⟩ := hI
  exact ⟨fresh hO hV.1.2.1 rfl, _, hO.2.2 11 b0 _ _ (v_some hV.1.2.1) 0 _ rfl⟩
end L
