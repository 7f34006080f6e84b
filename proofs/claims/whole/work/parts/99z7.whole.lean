/-! THE LAW, from its entry -/
theorem bg_H2 : nH (nH bg_hE (kMain 0 kwF) 5931) (kModel 138) 68784 = bg_bH kwF := nH_app
theorem bg_nl {h : aH} {cs : List aC} {k : Nat} : (nH h cs k).2.1 = h.2.1 + cs.length := rfl
theorem bg_sl {h : aH} {cs : List aC} {k : Nat} : (nH h cs k).2.2 = h.2.2 + k := rfl
theorem bg_n1 : (nH bg_hE (kMain 0 kwF) 5931).2.1 = 138 := by
  rw [bg_nl, kMain_len]; exact Nat.zero_add 138
theorem bg_s1 : (nH bg_hE (kMain 0 kwF) 5931).2.2 = 5931 := by
  rw [bg_sl]; exact Nat.zero_add 5931
theorem bg_s2 : (bg_bH kwF).2.2 = 74715 := by
  unfold bg_bH; rw [bg_sl]; exact Nat.zero_add 74715
set_option maxHeartbeats 4000000 in
theorem whole_start {p : Program} {e : Env} {s : State} {m : MethodId} {below : List Frame} {meth : Method} {c : Code} (l : Launch) {b L : Nat} {xs : Nat → Int32} (hL : L ≤ 3072) (C0 : lw_At p s m meth c b L xs) : W p l e room_1 s m #[Value.ref b] below meth c s.heap [] 0 0 (lw_Z below #[Value.ref b] s) (entryFrame m ([Value.ref b] : List Value).toArray 4) := by
  obtain ⟨hx, hb, hr, hml, hown, hts, hX, hbl, hlocks, hgv⟩ := id C0
  obtain ⟨zz, hZ⟩ := w_zZ hts hgv
  obtain ⟨D, dA, hK⟩ := w_K hts
  have C : a_Cx p s m #[Value.ref b] meth c D dA lM := ⟨hx, hb, hml, hown, w_gT hts, w_N hts, hlocks, hr, (fun h => by cases h), hK⟩
  have hP : va_P D vwCl (a_w s.heap.size dA bg_hE) s.heap := fun k q h => by simp [a_w, bg_hE] at h
  have hS : va_S (fun q : Nat => s.heap.size ≤ q) s.heap s.heap [] := va_S.rf
  have hl := lv_entry ([.ref b]) (n := 4) (Nat.le_of_ble_eq_true rfl)
  rw [lg_entry_eq]
  generalize (lg_sl ([.ref b]) ++ List.replicate (4 - (lg_sl ([.ref b])).length) Slot.unset).toArray = ls at hl ⊢
  have hl : lv_has ls 4 [(0, .ref b)] := hl
  refine w_new (h := bg_hE) (stk := []) C nw_L_7 dL_law_0 hP hS (by decide) (by decide) (fun H hP hS => ?_)
  refine lv_dup hx hb dL_law_3 rfl ?_
  refine w_callZ (zz := zz) (d' := 5) (a := 0) (As := []) (st := [.ref 0]) (r1 := none) (h1 := nH bg_hE (kMain 0 kwF) 5931) C hZ ci_L_9 (by decide) dL_law_4 rfl (by decide) (ckMain_at rfl) (by rw [bg_n1]; decide) (by rw [bg_s1]; decide) rfl hl hP hS (fun H locs hP hS => ?_)
  refine lv_astore_n (lv' := [(1, .ref s.heap.size), (0, .ref b)]) hx hb dL_law_7 rfl hl (by decide) rfl (fun ls hl => ?_)
  refine w_new (h := nH bg_hE (kMain 0 kwF) 5931) (stk := []) C nw_L_10 dL_law_8 hP hS (by rw [bg_n1]; decide) (by rw [bg_s1]; decide) (fun H hP hS => ?_)
  rw [bg_n1]
  refine lv_dup hx hb dL_law_11 rfl ?_
  refine w_callI (d' := 1) (a := 138) (As := []) (st := [.ref 138]) (r1 := none) (h1 := nH (nH bg_hE (kMain 0 kwF) 5931) (kModel 138) 68784) C ci_L_12 (by decide) dL_law_12 rfl (by decide) (ckModel_at bg_n1) (by rw [bg_H2, bg_1]; decide) (by rw [bg_H2, bg_s2]; decide) rfl hl hP hS (fun H locs hP hS => ?_)
  refine lv_astore_n (lv' := [(2, .ref (s.heap.size + 138)), (1, .ref s.heap.size), (0, .ref b)]) hx hb dL_law_15 rfl hl (by decide) rfl (fun ls hl => ?_)
  refine lv_iconst (v := 0) hx hb dL_law_16 (by decide) ?_
  refine lv_istore_n (lv' := [(3, .int 0), (2, .ref (s.heap.size + 138)), (1, .ref s.heap.size), (0, .ref b)]) hx hb dL_law_17 rfl hl (by decide) rfl (fun ls hl => ?_)
  rw [bg_H2] at hP ⊢
  exact l_loop (l := l) (e := e) (below := below) ⟨C0, C⟩ hL (L + 1) 0 (bg_bH kwF) (by omega) (by omega) (bg_INV bg_kwF_ok) H locs ls (lv_sub hl [0, 3, 2, 1] rfl) hP hS
