/-! THE LAW'S ENTRY -/
theorem w_arrP {args : Array Value} {s : State} {ty : FieldType} (h : (Cond.arrayClass ty).before args s = true) : ∃ cA : ClassId, ArrOfT s cA ty ∧ s.vm.findClass ("[" ++ ty.toString) = some cA := by
  obtain ⟨c, k, comp, h1, h2, h3⟩ := Cond.arrayClass_spec h
  exact ⟨c, fun n z => ⟨fun k h => (by cases h), k, h2, comp, h3⟩, h1⟩
theorem w_arrO {s : State} {C : String} (h : va_AO C s) : ∃ cA : ClassId, ArrOfT s cA (.object C) ∧ va_RA s cA (.object C) := by
  obtain ⟨comp, c, k, h1, h2, h3, h4, h5⟩ := Cond.arrayOver_spec h
  exact ⟨c, fun n z => ⟨fun k h => (by cases h), k, h3, comp, h4⟩, k, comp, h3, h4, h1, h5⟩
section S
variable {s : State} {A : Array Value}
theorem w_gT (hts : ∀ w ∈ lw_tbl, w.before A s = true) : ∀ w ∈ gT, w.before A s = true := fun w hw => hts w (List.mem_filter.mp hw).1
theorem w_AO1 (hts : ∀ w ∈ lw_tbl, w.before A s = true) : va_AO "SwapBook$Tray" s := va_AO.of (hts _ (tT_1 _ (List.mem_of_getElem? (i := 30) rfl)))
theorem w_AO2 (hts : ∀ w ∈ lw_tbl, w.before A s = true) : va_AO "SwapBook$State" s := va_AO.of (hts _ (tT_2 _ (List.mem_of_getElem? (i := 1) rfl)))
theorem w_N (hts : ∀ w ∈ lw_tbl, w.before A s = true) : ∀ w ∈ gN, va_Nw w s := fun w hw => by
  refine va_Nw.of (gN_on w hw) (hts w ?_)
  simp only [gN, List.mem_cons, List.not_mem_nil, or_false] at hw
  rcases hw with rfl | rfl | rfl | rfl | rfl | rfl | rfl | rfl | rfl | rfl | rfl
  · exact tT_1 _ (List.mem_of_getElem? (i := 132) rfl)
  · exact tT_2 _ (List.mem_of_getElem? (i := 4) rfl)
  · exact tT_2 _ (List.mem_of_getElem? (i := 27) rfl)
  · exact tT_2 _ (List.mem_of_getElem? (i := 54) rfl)
  · exact tT_2 _ (List.mem_of_getElem? (i := 165) rfl)
  · exact tT_3 _ (List.mem_of_getElem? (i := 89) rfl)
  · exact tT_4 _ (List.mem_of_getElem? (i := 20) rfl)
  · exact tT_2 _ (List.mem_of_getElem? (i := 32) rfl)
  · exact tT_1 _ (List.mem_of_getElem? (i := 138) rfl)
  · exact tT_2 _ (List.mem_of_getElem? (i := 59) rfl)
  · exact tT_2 _ (List.mem_of_getElem? (i := 62) rfl)
theorem w_kn {C : String} {T : u_T} {N k : Nat} (hk : vwCl[k]? = some (C, T, N)) (h : ∃ (cC : ClassId) (iS : Nat → Nat), u_Kn s C T N cC iS) : ∃ q : ClassId × (Nat → Nat), ∀ r : vw_C, vwCl[k]? = some r → u_Kn s r.1 r.2.1 r.2.2 q.1 q.2 := by
  obtain ⟨cC, iS, h⟩ := h
  refine ⟨(cC, iS), fun r hr => ?_⟩
  rw [hk] at hr
  cases hr
  exact h
theorem w_K (hts : ∀ w ∈ lw_tbl, w.before A s = true) : ∃ (D : va_G) (dA : Nat → ClassId), va_K D vwCl (a_ty dA) s := by
  have hg := w_gT hts
  have h0 : ∀ k : Nat, ∃ q : ClassId × (Nat → Nat), ∀ r : vw_C, vwCl[k]? = some r → u_Kn s r.1 r.2.1 r.2.2 q.1 q.2 := fun k => match k with
    | 0 => w_kn rfl (u_known hg inG0 (hg _ wz_X0))
    | 1 => w_kn rfl (u_known hg inG1 (hg _ wz_X1))
    | 2 => w_kn rfl (u_known hg inG2 (hg _ wz_X2))
    | 3 => w_kn rfl (u_known hg inG3 (hg _ wz_X3))
    | 4 => w_kn rfl (u_known hg inG4 (hg _ wz_X4))
    | 5 => w_kn rfl (u_known hg inG5 (hg _ wz_X5))
    | 6 => w_kn rfl (u_known hg inG6 (hg _ wz_X6))
    | 7 => w_kn rfl (u_known hg inG7 (hg _ wz_X7))
    | 8 => w_kn rfl (u_known hg inG8 (hg _ wz_X8))
    | 9 => w_kn rfl (u_known hg inG9 (hg _ wz_X9))
    | 10 => w_kn rfl (u_known hg inG10 (hg _ wz_X10))
    | 11 => w_kn rfl (u_known hg inG11 (hg _ wz_X11))
    | 12 => w_kn rfl (u_known hg inG12 (hg _ wz_X12))
    | k + 13 => ⟨(default, fun _ => 0), fun r h => by simp at h⟩
  obtain ⟨g, hgk⟩ := Classical.axiomOfChoice h0
  obtain ⟨c0, a0, b0⟩ := w_arrP (hg _ wa_int)
  obtain ⟨c1, a1, b1⟩ := w_arrP (hg _ wa_long)
  obtain ⟨c2, a2, b2⟩ := w_arrP (hg _ wa_byte)
  obtain ⟨c3, a3, b3⟩ := w_arrP (hg _ wa_boolean)
  obtain ⟨c4, a4, b4⟩ := w_arrO (w_AO1 hts)
  obtain ⟨c5, a5, b5⟩ := w_arrO (w_AO2 hts)
  refine ⟨(fun k => (g k).1, fun k => (g k).2), fun k => match k with | 0 => c0 | 1 => c1 | 2 => c2 | 3 => c3 | 4 => c4 | _ => c5, fun k q h => hgk k q h, fun k q h => ?_⟩
  match k, h with
  | 0, h => cases h; exact ⟨a0, b0⟩
  | 1, h => cases h; exact ⟨a1, b1⟩
  | 2, h => cases h; exact ⟨a2, b2⟩
  | 3, h => cases h; exact ⟨a3, b3⟩
  | 4, h => cases h; exact ⟨a4, b4⟩
  | 5, h => cases h; exact ⟨a5, b5⟩
  | k + 6, h => simp at h
end S
/-- what the start gives of the string -/
abbrev kwTm : Term := .string "SwapBook$Tokens" 48
abbrev kwVl : Term := .field kwTm "java/lang/String" "value" "[B"
theorem f_ex : Cond.exactly kwTm "java/lang/String" ∈ flatC (Jvm.Cond.and given_1 narrow_1) := by decide +kernel
theorem f_co : Cond.eq (.field kwTm "java/lang/String" "coder" "B") (.int 0) ∈ flatC (Jvm.Cond.and given_1 narrow_1) := by decide +kernel
theorem f_ar : Cond.arrayOf kwVl .byte ∈ flatC (Jvm.Cond.and given_1 narrow_1) := by decide +kernel
theorem f_le : Cond.eq (.length kwVl) (.int 134) ∈ flatC (Jvm.Cond.and given_1 narrow_1) := by decide +kernel
theorem f_el : ∀ j, j < 134 → Cond.eq (.elem kwVl (.int (Int32.ofNat j))) (.int (kwB.getD j 0)) ∈ flatC (Jvm.Cond.and given_1 narrow_1) := by decide +kernel
theorem f_cs : Cond.eq (.static "java/lang/String" "COMPACT_STRINGS" "Z") (.int 1) ∈ flatC (Jvm.Cond.and given_1 narrow_1) := by decide +kernel
theorem f_sf : Cond.isRef (.static "jdk/internal/util/Preconditions" "SIOOBE_FORMATTER" "Ljava/util/function/BiFunction;") ∈ flatC (Jvm.Cond.and given_1 narrow_1) := by decide +kernel
theorem w_zZ {s : State} {A : Array Value} (hts : ∀ w ∈ lw_tbl, w.before A s = true) (hgv : (Jvm.Cond.and given_1 narrow_1).before A s = true) : ∃ zz, zZ zz s.heap.size s := by
  have hs := flat_of_before _ hgv
  have hA : ∀ a : Nat, a < s.heap.size → ¬ (fun q : Nat => s.heap.size ≤ q) a := fun a h => Nat.not_le.mpr h
  have i0 : ∀ i : Nat, i < 1 → i = 0 := fun i hi => by omega
  obtain ⟨adK, adV, hS, hT⟩ := vk_Sof (args := A) (s := s) (N := 1) (tm := fun _ => kwTm) (len := [134]) (byt := [kwB]) (A := fun q => s.heap.size ≤ q)
    (fun i hi => by obtain rfl := i0 i hi; decide) (fun i hi => hs _ f_ex) (fun i hi => hs _ f_co) (fun i hi => hs _ f_ar) (fun i hi => by obtain rfl := i0 i hi; exact hs _ f_le)
    (fun i hi j hj => by obtain rfl := i0 i hi; exact hs _ (f_el j hj)) (fun i j hi hj hn => absurd (show i = j by omega) hn) hA
  have hc := va_Zof (hts _ (tT_1 _ (List.mem_of_getElem? (i := 47) rfl))) (hts _ (tT_1 _ (List.mem_of_getElem? (i := 3) rfl))) (va_eqt (hs _ f_cs)) hA
  have hk : vk_S 1 [134] [kwB] (fun _ => adK 0) (fun _ => adV 0) (fun q => s.heap.size ≤ q) s s.heap := by
    refine ⟨fun i hi => ?_, fun i j hi hj _ => by omega⟩
    obtain rfl : i = 0 := by omega
    exact hS.1 0 hi
  have hr : vk_R RX8 48 kwT (adK 0) s := vk_R.of (hts _ (tT_1 _ (List.mem_of_getElem? (i := 37) rfl))) (hT 0 (by decide))
  rcases va_Zqof (hts _ (tT_1 _ (List.mem_of_getElem? (i := 63) rfl))) (hts _ (tT_1 _ (List.mem_of_getElem? (i := 5) rfl))) (hs _ f_sf) hA with h | ⟨t, h⟩
  · exact ⟨(adK 0, adV 0, 0), hk, hc, h, hr, w_AO1 hts, w_AO2 hts⟩
  · exact ⟨(adK 0, adV 0, t + 1), hk, hc, h, hr, w_AO1 hts, w_AO2 hts⟩
section L
variable {p : Program} {l : Launch} {e : Env} {s : State} {m : MethodId} {below : List Frame} {meth : Method} {c : Code} {b : Nat} {D : va_G} {dA : Nat → ClassId} {h : aH} {pc : Nat} {st : List Value} {H : Heap} {locs : List Loc} {ls : Array Slot} {Q : State → Prop} {lv : List (Nat × Value)}
theorem w_new {index ci N : Nat} {fs : List Value} {stk : List Value} (C : a_Cx p s m #[Value.ref b] meth c D dA lM) (hf : a_NW RL index ci N fs) (hd : decode code pc = .ok (.new index, 3)) (hP : va_P D vwCl (a_w s.heap.size dA h) H) (hQ : va_S (fun q => s.heap.size ≤ q) s.heap H locs) (hR1 : h.2.1 + 1 ≤ 600000) (hR2 : h.2.2 + N ≤ 7302250)
    (k : ∀ H1, va_P D vwCl (a_w s.heap.size dA (nH h [.inr (ci, fs)] N)) H1 → va_S (fun q => s.heap.size ≤ q) s.heap H1 locs → W p l e room_1 s m #[Value.ref b] below meth c H1 locs (nH h [.inr (ci, fs)] N).2.1 (nH h [.inr (ci, fs)] N).2.2 Q (F0 m (pc + 3) ls (.ref (s.heap.size + h.2.1) :: stk))) : W p l e room_1 s m #[Value.ref b] below meth c H locs h.2.1 h.2.2 Q (F0 m pc ls stk) := by
  obtain ⟨C0, T, ty, h1, h2, h3, h4, h5, h6, h7, h8⟩ := hf
  refine va_new (ws := a_w s.heap.size dA h) (fs := fs) (ci := ci) (A := fun q => s.heap.size ≤ q) (H0 := s.heap) C.1 C.2.1 C.2.2.2.2.1 h2 ty h3 C.2.2.2.1 (C.2.2.2.2.1 _ h4) (C.2.2.2.2.1 _ h5) (C.2.2.2.2.1 _ h6) C.2.2.2.2.2.2.2.2.2 hP (a_D s.heap.size dA h) hQ (fun q hq => hq) h1 h7 hR1 hR2 hd (fun q H1 hP1 hD1 hS1 => ?_)
  intro T' hT X
  have hq := a_addr (n0 := 0) (b := s.heap.size) (h := h) X hT rfl (Nat.zero_le _) hP1 hD1
  subst hq
  have e1 : a_w s.heap.size dA h ++ [(s.heap.size + h.2.1, (Sum.inr (ci, fs) : va_E))] = a_w s.heap.size dA (nH h [.inr (ci, fs)] N) := by
    rw [← nH_0, ← a_app]
    show _ = a_w s.heap.size dA h ++ [(s.heap.size + h.2.1, (Sum.inr (ci, fs.map (a_v s.heap.size)) : va_E))]
    rw [h8 s.heap.size]
  rw [e1] at hP1
  exact k H1 hP1 hS1 T' hT X
theorem w_cB (C : a_Cx p s m #[Value.ref b] meth c D dA lM) {d' index np nL x1 x2 : Nat} {y : MethodName} {cc : ByteArray} (hB : a_CB RL index y cc nL none np) (hdp : d' ≤ 300) : CallB room_1 s #[Value.ref b] RL index y cc nL none (.code y cc nL none :: gT) (a_R d' x1 x2) x1 x2 np := by
  obtain ⟨g1, g2, g3, g4, g5⟩ := hB
  refine callB_of np C.2.2.2.2.1 (gT_in (fun _ h => h) g2) rfl rfl rfl (C.2.2.2.2.1 _ g3) (C.2.2.2.2.1 _ g1) g5 ⟨?_, ?_⟩
  · show d' + 1 ≤ 2048
    omega
  · show 8 + (nL + 11) + 64 * d' ≤ 84000
    omega
theorem w_callZ {zz : zA} (C : a_Cx p s m #[Value.ref b] meth c D dA lM) (hZ : zZ zz s.heap.size s) {d' index np a nL : Nat} {y : MethodName} {cc : ByteArray} {As : List Value} {h1 : aH} {r1 : Option Value} {stk : List Value} (hf : a_CI RL index y cc nL np) (hdp : d' ≤ 300) (hd : decode code pc = .ok (.invokespecial index, 3)) (hlen : As.length = np) (hr : (st.map (fun v => v.category)).sum ≤ 8) (hm : zMet zz l d' y cc nL none (.ref a :: As) h r1 h1) (hR1 : h1.2.1 ≤ 600000) (hR2 : h1.2.2 ≤ 7302250) (hst : stk = (As.reverse ++ .ref a :: st).map (a_v s.heap.size)) (hl : lv_has ls 4 lv) (hP : va_P D vwCl (a_w s.heap.size dA h) H) (hQ : va_S (fun q => s.heap.size ≤ q) s.heap H locs)
    (k : ∀ H1 locs1, va_P D vwCl (a_w s.heap.size dA h1) H1 → va_S (fun q => s.heap.size ≤ q) s.heap H1 locs1 → W p l e room_1 s m #[Value.ref b] below meth c H1 locs1 h1.2.1 h1.2.2 Q (F0 m (pc + 3) ls ((r1.toList ++ st).map (a_v s.heap.size)))) : W p l e room_1 s m #[Value.ref b] below meth c H locs h.2.1 h.2.2 Q (F0 m pc ls stk) := by
  subst hst
  intro T hT X
  obtain ⟨m1, m2, m3⟩ := hm
  obtain ⟨hB, hi, hnm⟩ := hf
  have hsz := a_size (n0 := 0) X hT rfl (Nat.zero_le _) hP
  exact a_after (n0 := 0) (S0 := 0) (st := st) (va_runI (As := As.map (a_v s.heap.size)) (b := s.heap.size + a) ⟨C.1, C.2.1, C.2.2.1, C.2.2.2.1, C.2.2.2.2.1⟩ (m3 D dA s.heap.size) ⟨w_cB C hB hdp, hnm, C.2.2.2.2.1 _ hi⟩ ⟨z_blind, fun U hU hW => ⟨rfl, by rw [hU]; exact hsz, by rw [hU]; exact hP, va_K.moved hW.alike C.2.2.2.2.2.2.2.2.2, fun w hw => gN_warm hW w hw (C.2.2.2.2.2.1 w hw), zZ_at hZ hQ hU hW⟩⟩ rfl (by rw [List.length_map]; exact hlen) hl.1 (by simp [List.map_append, List.map_reverse, a_v]) (a_room hr) hd ⟨by show h.2.1 - 0 + _ ≤ 600000; omega, by show h.2.2 - 0 + _ ≤ 7302250; omega⟩) m1 m2 (Nat.zero_le _) (Nat.zero_le _) hQ (fun H1 locs1 hP1 hQ1 => k H1 locs1 hP1 hQ1) T hT X
theorem w_callI (C : a_Cx p s m #[Value.ref b] meth c D dA lM) {d' index np a nL : Nat} {y : MethodName} {cc : ByteArray} {As : List Value} {h1 : aH} {r1 : Option Value} {stk : List Value} (hf : a_CI RL index y cc nL np) (hdp : d' ≤ 300) (hd : decode code pc = .ok (.invokespecial index, 3)) (hlen : As.length = np) (hr : (st.map (fun v => v.category)).sum ≤ 8) (hm : aMet l d' y cc nL none (.ref a :: As) h r1 h1) (hR1 : h1.2.1 ≤ 600000) (hR2 : h1.2.2 ≤ 7302250) (hst : stk = (As.reverse ++ .ref a :: st).map (a_v s.heap.size)) (hl : lv_has ls 4 lv) (hP : va_P D vwCl (a_w s.heap.size dA h) H) (hQ : va_S (fun q => s.heap.size ≤ q) s.heap H locs)
    (k : ∀ H1 locs1, va_P D vwCl (a_w s.heap.size dA h1) H1 → va_S (fun q => s.heap.size ≤ q) s.heap H1 locs1 → W p l e room_1 s m #[Value.ref b] below meth c H1 locs1 h1.2.1 h1.2.2 Q (F0 m (pc + 3) ls ((r1.toList ++ st).map (a_v s.heap.size)))) : W p l e room_1 s m #[Value.ref b] below meth c H locs h.2.1 h.2.2 Q (F0 m pc ls stk) := by
  subst hst
  intro T hT X
  obtain ⟨m1, m2, m3⟩ := hm
  obtain ⟨hB, hi, hnm⟩ := hf
  have hsz := a_size (n0 := 0) X hT rfl (Nat.zero_le _) hP
  exact a_after (n0 := 0) (S0 := 0) (st := st) (va_runI (As := As.map (a_v s.heap.size)) (b := s.heap.size + a) ⟨C.1, C.2.1, C.2.2.1, C.2.2.2.1, C.2.2.2.2.1⟩ (m3 D dA s.heap.size) ⟨w_cB C hB hdp, hnm, C.2.2.2.2.1 _ hi⟩ ⟨a_blind (b := s.heap.size), fun U hU hW => ⟨rfl, by rw [hU]; exact hsz, by rw [hU]; exact hP, va_K.moved hW.alike C.2.2.2.2.2.2.2.2.2, fun w hw => gN_warm hW w hw (C.2.2.2.2.2.1 w hw)⟩⟩ rfl (by rw [List.length_map]; exact hlen) hl.1 (by simp [List.map_append, List.map_reverse, a_v]) (a_room hr) hd ⟨by show h.2.1 - 0 + _ ≤ 600000; omega, by show h.2.2 - 0 + _ ≤ 7302250; omega⟩) m1 m2 (Nat.zero_le _) (Nat.zero_le _) hQ (fun H1 locs1 hP1 hQ1 => k H1 locs1 hP1 hQ1) T hT X
end L
