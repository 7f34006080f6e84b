/-! THE VOYAGE: ships and draws -/
def come (v : VS) (b h : Nat) : VS := (fun j => if j = b then v.1 b ||| h else v.1 j, (v.2.1.1, v.2.1.2.1, v.2.1.2.2.1, v.2.1.2.2.2.1 + 1, v.2.1.2.2.2.2), v.2.2)
def push (v : VS) (x : VC) : VS := (v.1, v.2.1, v.2.2.1, v.2.2.2 ++ [x])
def sh1 (v : VS) : VS := (v.1, v.2.1, (v.2.2.1.1 + 1, v.2.2.1.2), v.2.2.2)
def sh2 (a b d : Nat) (v : VS) : VS := if d = 0 then come (sh1 v) b (v.1 a) else push (sh1 v) (b, v.1 a, v.2.1.2.1 + d, v.2.2.1.1 + 1)
def vShip (a b d tw : Nat) (v : VS) : VS := if a = b then msd v else if v.2.2.2.length + ((if d = 0 then 0 else 1) + tw) ≤ 20 then (if tw = 0 then sh2 a b d v else push (sh2 a b d v) (b, v.1 a, v.2.1.2.1 + d + 1, v.2.2.1.1 + 1)) else msd v
theorem app_get {α : Type} {l : List α} {x y : α} {k : Nat} (h : (l ++ [x])[k]? = some y) : (l[k]? = some y ∧ k ≠ l.length) ∨ (k = l.length ∧ y = x) := by
  rw [List.getElem?_append] at h
  by_cases c : k < l.length
  · rw [if_pos c] at h; exact Or.inl ⟨h, by omega⟩
  · rw [if_neg c] at h
    by_cases e : k = l.length
    · rw [e, Nat.sub_self, List.getElem?_cons_zero] at h
      exact Or.inr ⟨e, (Option.some.inj h).symm⟩
    · rw [List.getElem?_eq_none (by show 1 ≤ _; omega)] at h; cases h
theorem len_app {α : Type} (l : List α) (x : α) : (l ++ [x]).length = l.length + 1 := List.length_append
theorem cgR_push {l : List VC} {s s' : RS} (h : cgR l s) (x : VC) (h0 : s'.1 35 = nI (l.length + 1)) (h10 : s'.2.2.1 10 = upd (s.2.2.1 10) l.length (nI x.1)) (h11 : s'.2.2.1 11 = upd (s.2.2.1 11) l.length (nI x.2.1)) (h12 : s'.2.2.1 12 = upd (s.2.2.1 12) l.length (nI x.2.2.1)) (h13 : s'.2.2.1 13 = upd (s.2.2.1 13) l.length (nI x.2.2.2)) : cgR (l ++ [x]) s' := by
  refine ⟨by rw [h0, len_app], fun k y hy => ?_⟩
  rw [h10, h11, h12, h13]
  rcases app_get hy with ⟨g, n⟩ | ⟨e, e2⟩
  · rw [upd_ne _ _ n, upd_ne _ _ n, upd_ne _ _ n, upd_ne _ _ n]; exact h.2 k y g
  · subst e e2
    rw [upd_at, upd_at, upd_at, upd_at]; exact ⟨rfl, rfl, rfl, rfl⟩
theorem cgX_push {l : List VC} {s s' : RS} (h : cgX l s) (x : VC) (h0 : s'.1 6 = nI (l.length + 1)) (h10 : s'.2.2.1 12 = upd (s.2.2.1 12) l.length (nI x.1)) (h11 : s'.2.2.1 11 = upd (s.2.2.1 11) l.length (nI x.2.1)) (h12 : s'.2.2.1 13 = upd (s.2.2.1 13) l.length (nI x.2.2.1)) (h13 : s'.2.2.1 14 = upd (s.2.2.1 14) l.length (nI x.2.2.2)) : cgX (l ++ [x]) s' := by
  refine ⟨by rw [h0, len_app], fun k y hy => ?_⟩
  rw [h10, h11, h12, h13]
  rcases app_get hy with ⟨g, n⟩ | ⟨e, e2⟩
  · rw [upd_ne _ _ n, upd_ne _ _ n, upd_ne _ _ n, upd_ne _ _ n]; exact h.2 k y g
  · subst e e2
    rw [upd_at, upd_at, upd_at, upd_at]; exact ⟨rfl, rfl, rfl, rfl⟩
theorem ad2 (w : Nat) : nI w + (2 : Int32) = nI (w + 2) := nI_add w 2
theorem ad3 (w : Nat) : nI w + (3 : Int32) = nI (w + 3) := nI_add w 3
theorem ad4 (w : Nat) : nI w + (4 : Int32) = nI (w + 4) := nI_add w 4
theorem ad5 (w : Nat) : nI w + (5 : Int32) = nI (w + 5) := nI_add w 5
theorem ad6 (w : Nat) : nI w + (6 : Int32) = nI (w + 6) := nI_add w 6
theorem uA_1 (s : RS) (n : Nat) (f : Nat → Int32) : (uA s n f).1 = s.1 := rfl
theorem uI_3 (s : RS) (n : Nat) (f : Int32) : (uI s n f).2 = s.2 := rfl
section V
variable {s q r lg : RS} {B : Nat → Nat} {v : VS}
theorem r_comes (hs : vrR v s) {b : Nat} (hb : b < 4) (h : Nat) : ∃ s', pX12_comes s (nI b) (nI h) = some s' ∧ vrR (come v b h) s' ∧ rV s s' := by
  unfold pX12_comes
  rw [g114 hb, g114 hb, c114 hb, hs.1 b hb, orI, thn_eq, thn_eq]
  have k := vrR_setH hs (i := b) (x := v.1 b ||| h) hb
  refine ⟨_, rfl, ⟨k.1, ⟨hs.2.1.1, hs.2.1.2.1, hs.2.1.2.2.1, ?_, hs.2.1.2.2.2.2⟩, hs.2.2.1, hs.2.2.2⟩, rV_tr (rV_uA4 _ _ hb) (rV_uI _ _ (by omega))⟩
  show s.1 41 + (1 : Int32) = _
  rw [hs.2.1.2.2.2.1, nI_1]; rfl
theorem x_land (hR : bkR B r) (hw : wfB B) (hq : vrX v q) {b : Nat} (hb : b < B 1) (h : Nat) : ∃ q', pX10_land q r lg (nI h) (nI b) = some q' ∧ vrX (come v b h) q' ∧ qV q q' := by
  have h4 := hw.2.1
  unfold pX10_land
  rw [x_isIslandN hR hw (by omega), decide_eq_true hb, ob_s, if_pos rfl, g_inT (by omega) (by omega), g_inT (by omega) (by omega), nI_clamp (by omega), hq.1 b (by omega), orI, thn_eq]
  unfold X10_land_j21
  rw [thn_eq]
  have k := vrX_setH hq (i := b) (x := v.1 b ||| h)
  refine ⟨_, rfl, ⟨k.1, ⟨hq.2.1.1, hq.2.1.2.1, hq.2.1.2.2.1, ?_, hq.2.1.2.2.2.2⟩, hq.2.2.1, hq.2.2.2⟩, rfl⟩
  show q.1 4 + (1 : Int32) = _
  rw [hq.2.1.2.2.2.1, nI_1]; rfl
theorem r_load (hs : vrR v s) (hn : v.2.2.2.length < 20) (x y z : Nat) : ∃ s', pX12_load s (nI x) (nI y) (nI z) = some s' ∧ vrR (push v (x, y, z, v.2.2.1.1)) s' ∧ rV s s' := by
  have e := hs.2.2.2.1
  have e2 := hs.2.2.1.1
  unfold pX12_load
  simp (disch := omega) only [thn_eq, ob_s, se_l, se_r, li, lL, m1_i, nI_clamp, g_inT, leT, leF, ltT, ltF, eqT, eqF, nI_add, pk_mul, sbI, s1I, orI, dfI, Nat.reduceAdd, Nat.reduceMul, Nat.zero_add, ↓reduceIte, if_true, if_false, uA_1, e, e2]
  refine ⟨_, rfl, ⟨hs.1, hs.2.1, hs.2.2.1, cgR_push hs.2.2.2 _ rfl rfl rfl rfl rfl⟩, ?_⟩
  exact rV_tr (rV_tr (rV_tr (rV_tr (rV_uAc _ _ (by omega)) (rV_uAc _ _ (by omega))) (rV_uAc _ _ (by omega))) (rV_uAc _ _ (by omega))) (rV_uI _ _ (by omega))
theorem x_add (hq : vrX v q) (hn : v.2.2.2.length < 20) (x y z : Nat) : ∃ q', pX10_addCargo q r lg (nI y) (nI x) (nI z) = some q' ∧ vrX (push v (x, y, z, v.2.2.1.1)) q' ∧ qV q q' := by
  have e := hq.2.2.2.1
  have e2 := hq.2.2.1.1
  unfold pX10_addCargo
  simp (disch := omega) only [thn_eq, ob_s, se_l, se_r, li, lL, m1_i, nI_clamp, g_inT, leT, leF, ltT, ltF, eqT, eqF, nI_add, pk_mul, sbI, s1I, orI, dfI, Nat.reduceAdd, Nat.reduceMul, Nat.zero_add, ↓reduceIte, if_true, if_false, uA_1, e, e2]
  exact ⟨_, rfl, ⟨hq.1, hq.2.1, hq.2.2.1, cgX_push hq.2.2.2 _ rfl rfl rfl rfl rfl⟩, rfl⟩
theorem vrR_sh1 (hs : vrR v s) : vrR (sh1 v) (uI s 36 (s.1 36 + (1 : Int32))) := by
  refine ⟨hs.1, hs.2.1, ⟨?_, hs.2.2.1.2⟩, hs.2.2.2⟩
  show s.1 36 + (1 : Int32) = _
  rw [hs.2.2.1.1, nI_1]; rfl
theorem vrX_sh1 (hq : vrX v q) : vrX (sh1 v) (uI q 10 (q.1 10 + (1 : Int32))) := by
  refine ⟨hq.1, hq.2.1, ⟨?_, hq.2.2.1.2⟩, hq.2.2.2⟩
  show q.1 10 + (1 : Int32) = _
  rw [hq.2.2.1.1, nI_1]; rfl
theorem sh2_d (a b d : Nat) (v : VS) : (sh2 a b d v).2.1.2.1 = v.2.1.2.1 ∧ (sh2 a b d v).2.1.1 = v.2.1.1 ∧ (sh2 a b d v).2.2.1 = (v.2.2.1.1 + 1, v.2.2.1.2) ∧ (sh2 a b d v).2.2.2.length = v.2.2.2.length + (if d = 0 then 0 else 1) ∧ (a ≠ b → (sh2 a b d v).1 a = v.1 a) := by
  unfold sh2
  by_cases c : d = 0
  · rw [if_pos c, if_pos c]; exact ⟨rfl, rfl, rfl, rfl, fun h => if_neg h⟩
  · rw [if_neg c, if_neg c]; exact ⟨rfl, rfl, rfl, len_app _ _, fun _ => rfl⟩
theorem r_doShip (hB : blk (s.2.2.1 4) 0 B) (hw : wfB B) (hv : vW B v) (hs : vrR v s) {w a b d tw : Nat} (hw1 : 137 ≤ w) (hw2 : w + 7 ≤ 1800) (h1 : s.2.2.1 4 (w + 1) = nI a) (h2 : s.2.2.1 4 (w + 2) = nI b) (h3 : s.2.2.1 4 (w + 3) = nI d) (h4 : s.2.2.1 4 (w + 4) = nI tw) (ha : a < B 1) (hb : b < B 1) (hd : d ≤ 9) (ht : tw ≤ 1) : ∃ s', pX12_doShip s (nI w) = some s' ∧ vrR (vShip a b d tw v) s' ∧ rV s s' := by
  have i4 := hw.2.1
  have hl := hv.2.2.2.2.2.1
  have hdy := hv.2.2.1
  have hdn := hv.2.1
  have c1 := hs.2.2.2.1
  unfold pX12_doShip
  simp (disch := omega) only [thn_eq, nI_1, ad2, ad3, g_inT, nI_clamp, h1, h2, h3]
  have key : ∀ k0 : Bool, (k0 = true ↔ d ≠ 0) → ∃ s', X12_doShip_j38 (nI w) (nI a) (nI b) (nI d) k0 s = some s' ∧ vrR (vShip a b d tw v) s' ∧ rV s s' := by
    intro k0 hk
    have eb : b2i k0 = nI (if d = 0 then 0 else 1) := by
      by_cases c : d = 0
      · rw [if_pos c, show k0 = false from by cases k0; rfl; exact absurd c (hk.mp rfl)]; rfl
      · rw [if_neg c, show k0 = true from hk.mpr c]; rfl
    have le1 : (if d = 0 then 0 else 1) ≤ 1 := by by_cases c : d = 0 <;> simp [c]
    unfold X12_doShip_j38
    rw [eb, r_isIsland hB hw (by omega), decide_eq_true ha, r_isIsland hB hw (by omega), decide_eq_true hb, ad4, g_inT (by omega) (by omega), nI_clamp (by omega), h4, thn_eq, ob_s, if_pos rfl, ob_s, if_pos rfl, c1, nI_add, nI_add, show (20 : Int32) = nI 20 from rfl]
    unfold vShip X12_doShip_j82
    by_cases ab : a = b
    · rw [if_pos (by rw [ab]), if_pos ab, thn_eq]
      exact ⟨_, rfl, vrR_msd hs, rV_uI _ _ (by omega)⟩
    · rw [if_neg (fun q => ab ((nI_eq (by omega) (by omega)).mp q)), if_neg ab, ifLe (by omega) (by omega)]
      by_cases cc : v.2.2.2.length + ((if d = 0 then 0 else 1) + tw) ≤ 20
      · rw [if_pos cc, if_pos cc, thn_eq, g114 (show a < 4 by omega), c114 (by omega), thn_eq]
        have s1 := vrR_sh1 hs
        have r1 : rV s (uI s 36 (s.1 36 + (1 : Int32))) := rV_uI _ _ (by omega)
        have ea : (uI s 36 (s.1 36 + (1 : Int32))).2.2.1 4 (114 + a) = nI (v.1 a) := hs.1 a (by omega)
        have ed : (uI s 36 (s.1 36 + (1 : Int32))).1 39 = nI v.2.1.2.1 := hs.2.1.2.1
        rw [ea, ed, nI_add]
        have two : ∃ s2, (if nI d = (0 : Int32) then pX12_comes (uI s 36 (s.1 36 + (1 : Int32))) (nI b) (nI (v.1 a)) else pX12_load (uI s 36 (s.1 36 + (1 : Int32))) (nI b) (nI (v.1 a)) (nI (v.2.1.2.1 + d))) = some s2 ∧ vrR (sh2 a b d v) s2 ∧ rV s s2 := by
          unfold sh2
          by_cases d0 : d = 0
          · rw [if_pos (by rw [d0]; rfl), if_pos d0]
            obtain ⟨s2, e1, e2, e3⟩ := r_comes s1 (b := b) (by omega) (v.1 a)
            exact ⟨s2, e1, e2, rV_tr r1 e3⟩
          · rw [if_neg (show ¬ nI d = (0 : Int32) from fun q => d0 ((nI_eq (b := 0) (by omega) (by omega)).mp q)), if_neg d0]
            rw [if_neg d0] at cc
            obtain ⟨s2, e1, e2, e3⟩ := r_load s1 (show v.2.2.2.length < 20 by omega) b (v.1 a) (v.2.1.2.1 + d)
            exact ⟨s2, e1, e2, rV_tr r1 e3⟩
        obtain ⟨s2, t1, t2, t3⟩ := two
        have fin : ∃ s', X12_doShip_j143 (nI w) (nI b) (nI d) (nI (v.1 a)) s2 = some s' ∧ vrR (if tw = 0 then sh2 a b d v else push (sh2 a b d v) (b, v.1 a, v.2.1.2.1 + d + 1, v.2.2.1.1 + 1)) s' ∧ rV s s' := by
          unfold X12_doShip_j143
          have f4 : s2.2.2.1 4 (w + 4) = nI tw := by rw [t3.2.2.2.2 (w + 4) (by omega), h4]
          have fd : s2.1 39 = nI v.2.1.2.1 := by rw [t2.2.1.2.1, (sh2_d a b d v).1]
          rw [ad4, g_inT (by omega) (by omega), nI_clamp (by omega), f4, fd, nI_add, nI_1, show (1 : Int32) = nI 1 from rfl, ifE (by omega) (by omega)]
          by_cases c0 : tw = 0
          · rw [if_neg (by omega), if_pos c0]
            exact ⟨s2, rfl, t2, t3⟩
          · rw [if_pos (by omega), if_neg c0]
            have g := sh2_d a b d v
            obtain ⟨s3, e1, e2, e3⟩ := r_load t2 (by rw [g.2.2.2.1]; omega) b (v.1 a) (v.2.1.2.1 + d + 1)
            rw [g.2.2.1] at e2
            rw [e1]
            exact ⟨s3, rfl, e2, rV_tr t3 e3⟩
        obtain ⟨s3, f1, f2, f3⟩ := fin
        refine ⟨s3, ?_, f2, f3⟩
        by_cases d0 : nI d = (0 : Int32)
        · rw [if_pos d0] at t1 ⊢
          rw [t1, ob_s, f1]
        · rw [if_neg d0] at t1 ⊢
          rw [t1, ob_s, f1]
      · rw [if_neg cc, if_neg cc, thn_eq]
        exact ⟨_, rfl, vrR_msd hs, rV_uI _ _ (by omega)⟩
  rw [show (0 : Int32) = nI 0 from rfl, ifLe (by omega) (by omega)]
  by_cases d0 : d ≤ 0
  · rw [if_pos d0]; exact key false ⟨fun h => (Bool.false_ne_true h).elim, fun h => absurd (by omega) h⟩
  · rw [if_neg d0]; exact key true ⟨fun _ => by omega, fun _ => rfl⟩
theorem x_setOut (hR : bkR B r) (hw : wfB B) (hv : vW B v) (hq : vrX v q) {w a b d tw : Nat} (hw2 : w < 60) (h1 : lg.2.2.1 3 w = nI a) (h2 : lg.2.2.1 4 w = nI b) (h3 : lg.2.2.1 5 w = nI d) (h4 : lg.2.2.1 6 w = nI tw) (ha : a < B 1) (hb : b < B 1) (hd : d ≤ 9) (ht : tw ≤ 1) : ∃ y q', pX10_setOut q r lg (nI w) = some (y, q') ∧ qV q q' ∧ vrX (vShip a b d tw v) (if y = true then q' else uI q' 3 (q'.1 3 + (1 : Int32))) := by
  have i4 := hw.2.1
  have hl := hv.2.2.2.2.2.1
  have hdy := hv.2.2.1
  have hdn := hv.2.1
  have c1 := hq.2.2.2.1
  unfold pX10_setOut
  rw [nI_clamp (by omega), h1, h2, h3, thn_eq, thn_eq, x_isIslandN hR hw (by omega), decide_eq_true ha, x_isIslandN hR hw (by omega), decide_eq_true hb]
  rw [g_inT (by omega) (by omega), g_inT (by omega) (by omega), ob_s, if_pos rfl, ob_s, if_pos rfl]
  unfold vShip
  by_cases ab : a = b
  · rw [if_pos (by rw [ab]), if_pos ab]
    exact ⟨false, q, rfl, rfl, vrX_msd hq⟩
  · rw [if_neg (fun q => ab ((nI_eq (by omega) (by omega)).mp q)), if_neg ab, g_inT (by omega) (by omega), thn_eq]
    have key : ∀ k0 : Bool, (k0 = true ↔ d ≠ 0) → ∃ y q', X10_setOut_j70 (nI w) (nI a) (nI b) (nI d) k0 q r lg = some (y, q') ∧ qV q q' ∧ vrX (if v.2.2.2.length + ((if d = 0 then 0 else 1) + tw) ≤ 20 then (if tw = 0 then sh2 a b d v else push (sh2 a b d v) (b, v.1 a, v.2.1.2.1 + d + 1, v.2.2.1.1 + 1)) else msd v) (if y = true then q' else uI q' 3 (q'.1 3 + (1 : Int32))) := by
      intro k0 hk
      have eb : b2i k0 = nI (if d = 0 then 0 else 1) := by
        by_cases c : d = 0
        · rw [if_pos c, show k0 = false from by cases k0; rfl; exact absurd c (hk.mp rfl)]; rfl
        · rw [if_neg c, show k0 = true from hk.mpr c]; rfl
      have le1 : (if d = 0 then 0 else 1) ≤ 1 := by by_cases c : d = 0 <;> simp [c]
      have key2 : ∀ k1 : Bool, b2i k1 = nI tw → ∃ y q', X10_setOut_j87 (nI w) (nI a) (nI b) (nI d) k0 k1 q r lg = some (y, q') ∧ qV q q' ∧ vrX (if v.2.2.2.length + ((if d = 0 then 0 else 1) + tw) ≤ 20 then (if tw = 0 then sh2 a b d v else push (sh2 a b d v) (b, v.1 a, v.2.1.2.1 + d + 1, v.2.2.1.1 + 1)) else msd v) (if y = true then q' else uI q' 3 (q'.1 3 + (1 : Int32))) := by
        intro k1 hk1
        unfold X10_setOut_j87
        rw [eb, hk1, thn_eq, c1, nI_add, nI_add, show (20 : Int32) = nI 20 from rfl, ifLe (by omega) (by omega)]
        by_cases cc : v.2.2.2.length + ((if d = 0 then 0 else 1) + tw) ≤ 20
        · rw [if_pos cc, if_pos cc, thn_eq, g_inT (by omega) (by omega), g_inT (by omega) (by omega), nI_clamp (by omega)]
          have s1 := vrX_sh1 hq
          have ea : (uI q 10 (q.1 10 + (1 : Int32))).2.2.1 0 a = nI (v.1 a) := hq.1 a (by omega)
          have ed : (uI q 10 (q.1 10 + (1 : Int32))).1 2 = nI v.2.1.2.1 := hq.2.1.2.1
          rw [ea, ed, nI_add]
          have two : ∃ s2, (if nI d ≤ (0 : Int32) then pX10_land (uI q 10 (q.1 10 + (1 : Int32))) r lg (nI (v.1 a)) (nI b) else pX10_addCargo (uI q 10 (q.1 10 + (1 : Int32))) r lg (nI (v.1 a)) (nI b) (nI (v.2.1.2.1 + d))) = some s2 ∧ vrX (sh2 a b d v) s2 ∧ qV q s2 := by
            unfold sh2
            rw [show (0 : Int32) = nI 0 from rfl, ifLe (by omega) (by omega)]
            by_cases d0 : d = 0
            · rw [if_pos (by omega), if_pos d0]
              obtain ⟨s2, e1, e2, e3⟩ := x_land (lg := lg) hR hw s1 hb (v.1 a)
              exact ⟨s2, e1, e2, e3⟩
            · rw [if_neg (by omega), if_neg d0]
              rw [if_neg d0] at cc
              obtain ⟨s2, e1, e2, e3⟩ := x_add (r := r) (lg := lg) s1 (show v.2.2.2.length < 20 by omega) b (v.1 a) (v.2.1.2.1 + d)
              exact ⟨s2, e1, e2, e3⟩
          obtain ⟨s2, t1, t2, t3⟩ := two
          have g := sh2_d a b d v
          have fin : ∃ s', X10_setOut_j151 (nI w) (nI a) (nI b) (nI d) s2 r lg = some (true, s') ∧ vrX (if tw = 0 then sh2 a b d v else push (sh2 a b d v) (b, v.1 a, v.2.1.2.1 + d + 1, v.2.2.1.1 + 1)) s' ∧ qV q s' := by
            unfold X10_setOut_j151
            have fd : s2.1 2 = nI v.2.1.2.1 := by rw [t2.2.1.2.1, g.1]
            have fa : s2.2.2.1 0 a = nI (v.1 a) := by rw [t2.1 a (by omega), g.2.2.2.2 ab]
            rw [g_inT (by omega) (by omega), nI_clamp (by omega), nI_clamp (by omega), h4, g_inT (by omega) (by omega), fd, fa, nI_add, nI_1, show (0 : Int32) = nI 0 from rfl, ifE (by omega) (by omega)]
            by_cases c0 : tw = 0
            · rw [if_pos c0, if_pos c0]
              exact ⟨s2, rfl, t2, t3⟩
            · rw [if_neg c0, if_neg c0]
              obtain ⟨s3, e1, e2, e3⟩ := x_add (r := r) (lg := lg) t2 (by rw [g.2.2.2.1]; omega) b (v.1 a) (v.2.1.2.1 + d + 1)
              rw [g.2.2.1] at e2
              rw [e1]
              exact ⟨s3, rfl, e2, e3.trans t3⟩
          obtain ⟨s3, f1, f2, f3⟩ := fin
          refine ⟨true, s3, ?_, f3, f2⟩
          by_cases d0 : nI d ≤ (0 : Int32)
          · rw [if_pos d0] at t1 ⊢
            rw [t1, ob_s, f1]
          · rw [if_neg d0] at t1 ⊢
            rw [t1, ob_s, f1]
        · rw [if_neg cc, if_neg cc]
          exact ⟨false, q, rfl, rfl, vrX_msd hq⟩
      unfold X10_setOut_j70
      rw [g_inT (by omega) (by omega), nI_clamp (by omega), h4, show (0 : Int32) = nI 0 from rfl, ifE (by omega) (by omega)]
      by_cases t0 : tw = 0
      · rw [if_pos t0]; exact key2 false (by rw [t0]; rfl)
      · rw [if_neg t0]; exact key2 true (by rw [show tw = 1 by omega]; rfl)
    rw [show (0 : Int32) = nI 0 from rfl, ifLe (by omega) (by omega)]
    by_cases d0 : d ≤ 0
    · rw [if_pos d0]; exact key false ⟨fun h => (Bool.false_ne_true h).elim, fun h => absurd (by omega) h⟩
    · rw [if_neg d0]; exact key true ⟨fun _ => by omega, fun _ => rfl⟩
end V
theorem come_ok {B : Nat → Nat} {v : VS} (hv : vW B v) {b h : Nat} (hb : b < 4) (hh : hOk B h) : vW B (come v b h) :=
  have k := vW_setH hv (i := b) (hOk_or (hv.1 b hb) hh)
  ⟨k.1, hv.2⟩
theorem vShip_ok {B : Nat → Nat} (hw : wfB B) {a b d tw : Nat} {v : VS} (hv : vW B v) (hn : v.2.2.1.1 < v.2.1.1) (ha : a < B 1) (hb : b < B 1) (hd : d ≤ 9) : vW B (vShip a b d tw v) ∧ (vShip a b d tw v).2.1.1 = v.2.1.1 ∧ (vShip a b d tw v).2.1.2.1 = v.2.1.2.1 := by
  have i4 := hw.2.1
  have hH := hv.1 a (by omega)
  obtain ⟨v1, v2, v3, v4, v5, v6, v7⟩ := hv
  unfold vShip
  by_cases ab : a = b
  · rw [if_pos ab]; exact ⟨⟨v1, v2, v3, v4, v5, v6, v7⟩, rfl, rfl⟩
  · rw [if_neg ab]
    by_cases cc : v.2.2.2.length + ((if d = 0 then 0 else 1) + tw) ≤ 20
    · rw [if_pos cc]
      have g := sh2_d a b d v
      have h1 : vW B (sh1 v) := ⟨v1, v2, v3, hn, v5, v6, v7⟩
      have pu : ∀ (u : VS) (x : VC), vW B u → cOk B x → u.2.2.2.length < 20 → vW B (push u x) := fun u x hu hx hl =>
        ⟨hu.1, hu.2.1, hu.2.2.1, hu.2.2.2.1, hu.2.2.2.2.1, by show (_ ++ [x]).length ≤ 20; rw [len_app]; omega, fun y hy => by
          rcases List.mem_append.mp hy with m | m
          · exact hu.2.2.2.2.2.2 y m
          · rw [List.mem_singleton.mp m]; exact hx⟩
      have h2 : vW B (sh2 a b d v) := by
        unfold sh2
        by_cases c : d = 0
        · rw [if_pos c]; exact come_ok h1 (by omega) hH
        · rw [if_neg c]
          rw [if_neg c] at cc
          exact pu _ _ h1 ⟨hb, hH, by show _ + d < _; omega, by show _ + 1 < _; omega⟩ (show v.2.2.2.length < 20 by omega)
      by_cases t0 : tw = 0
      · rw [if_pos t0]; exact ⟨h2, g.2.1, g.1⟩
      · rw [if_neg t0]
        exact ⟨pu _ _ h2 ⟨hb, hH, by show _ + d + 1 < _; omega, by show _ + 1 < _; omega⟩ (by rw [g.2.2.2.1]; omega), g.2.1, g.1⟩
    · rw [if_neg cc]; exact ⟨⟨v1, v2, v3, v4, v5, v6, v7⟩, rfl, rfl⟩
