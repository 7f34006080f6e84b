/-! BOOKS: an ISLAND, and all parts, both ways -/
section G
variable {B B' : Nat → Nat} (h : ∀ x, x ≠ 1 → B' x = B x)
theorem o_thF (h : ∀ x, x ≠ 1 → B' x = B x) : ∀ n i, thF B' n i = thF B n i
  | 0, i => rfl
  | n + 1, i => by
    unfold thF
    rw [h (2 + i) (by omega), h (50 + i) (by omega), o_thF h n]
theorem o_wq (h : ∀ x, x ≠ 1 → B' x = B x) (i j : Nat) : wq B' i j = wq B i j := by
  unfold wq thB
  rw [h (2 + i) (by omega), h (2 + j) (by omega), h (98 + i) (by omega), h (98 + j) (by omega), o_thF h, o_thF h]
theorem o_lv (h : ∀ x, x ≠ 1 → B' x = B x) : ∀ n i, lvF B' n i = lvF B n i
  | 0, i => rfl
  | n + 1, i => by
    unfold lvF
    apply mxN_cg
    intro j hj
    rw [h (82 + i) (by omega), o_lv h n]
theorem o_wf (h : ∀ x, x ≠ 1 → B' x = B x) (hw : wfB B) (h1 : B' 1 ≤ 4) : wfB B' := by
  refine ⟨by rw [h 0 (by omega)]; exact hw.1, h1, fun k hk => ?_⟩
  rw [h 0 (by omega)] at hk
  obtain ⟨m1, m2, m3, m4, m5, m6, m7⟩ := hw.2.2 k hk
  rw [h (2 + k) (by omega), h (98 + k) (by omega), h (82 + k) (by omega), h (50 + k) (by omega), h (66 + k) (by omega), h (2 + B (50 + k)) (by omega)]
  refine ⟨m1, m2, m3, fun x => ?_, m5, m6, fun q => ?_⟩
  · rw [m4 x]
    congr 1
    apply anN_cg
    intro j hj
    rw [h (98 + j) (by omega)]
  · rw [o_wq h]; exact m7 q
theorem o_bk (h : ∀ x, x ≠ 1 → B' x = B x) {r r' : RS} (hR : bkR B r) (h0 : r'.1 0 = nI (B' 1)) (hi : ∀ j, j ≠ 0 → r'.1 j = r.1 j) (hr : r'.2.2.1 = r.2.2.1) : bkR B' r' := by
  refine ⟨h0, by rw [hi 1 (by decide), h 0 (by omega)]; exact hR.2.1, ?_, fun k hk => ?_⟩
  · rw [hi 15 (by decide), hR.2.2.1, h 0 (by omega)]
    congr 1
    apply mkN_cg
    intro j _
    rw [h (2 + j) (by omega)]
  · rw [h 0 (by omega)] at hk
    have b := hR.2.2.2 k hk
    have e1 : hgr B' k = hgr B k := by
      unfold hgr
      rw [h 0 (by omega)]
      apply mkN_cg
      intro j _
      rw [h (98 + j) (by omega)]
    have e2 : foe B' k = foe B k := by
      unfold foe
      rw [h 0 (by omega)]
      apply mkN_cg
      intro j _
      rw [o_wq h]
    have e3 : nmB B' k = nmB B k := by
      unfold nmB
      rw [h (2 + k) (by omega), h (34 + k) (by omega), h (18 + k) (by omega)]
    have e4 : thB B' k = thB B k := o_thF h _ _
    have e5 : lvB B' k = lvB B k := o_lv h _ _
    rw [hr, e1, e2, e3, e4, e5, h (2 + k) (by omega), h (34 + k) (by omega), h (82 + k) (by omega), h (98 + k) (by omega), h (50 + k) (by omega), h (66 + k) (by omega)]
    exact b
end G
section V
variable {s q q0 r s0 : RS} {b : Nat → Nat} {e T j f st k kd z : Nat} {tb : Nat → Int64} {nm nmI : Nat → Nat} {B Bc : Nat → Nat}
theorem p_island (hV : bV tb b e T q0 B nm nmI j s r) (hJ : kJ tb b e j ≠ 33) : (∃ B' nmI' s' j' r', (pX12_readIsland s).bind X12_book_j95 = some (.inl s') ∧ pX1_readIsland s0 (uI q0 10 (nI j)) r = some (true, uI q0 10 (nI j'), r') ∧ bV tb b e T q0 B' nm nmI' j' s' r' ∧ rsB s s' ∧ B' 0 = B 0 ∧ B' 1 = B 1 + 1) ∨ botC q0 s ((pX12_readIsland s).bind X12_book_j95) (pX1_readIsland s0 (uI q0 10 (nI j)) r) := by
  obtain ⟨h, h12, hB, hw, hR, hn, hn2, hz⟩ := hV
  have h16 := hw.1
  have i4 := hw.2.1
  have hc0 : s.2.2.1 4 1440 = nI (B 0) := hB.1 0 (by omega)
  obtain ⟨m, h1⟩ : ∃ m, B 1 = m := ⟨_, rfl⟩
  have hc1 : s.2.2.1 4 1441 = nI m := by have := hB.1 1 (by omega); rw [h1] at this; exact this
  have hr0 : r.1 0 = nI m := by rw [hR.1, h1]
  rw [h1] at hn2 i4
  have hrc : pX12_readIsland s = if m = 4 then (pX12_fail s (6 : Int32) (s.1 15)).bind fun x4 => X12_readIsland_j24 (nI m) x4 else X12_readIsland_j24 (nI m) s := by
    unfold pX12_readIsland
    rw [show (1441 : Int32) = nI 1441 from rfl, g_inT (by omega) (by omega), nI_clamp (by omega), hc1, thn_eq, show (4 : Int32) = nI 4 from rfl, ifE (by omega) (by omega)]
  rw [hrc]
  unfold pX1_readIsland
  rw [hr0, show (4 : Int32) = nI 4 from rfl, ifLt (by omega) (by omega)]
  by_cases c4 : m = 4
  · right
    obtain ⟨F1, F2⟩ := p_fail h h12 6
    have hb : badR 6 (fltR 6 (tsq b e j) s) := ⟨rfl, by omega, by omega⟩
    rw [if_pos c4, if_neg (by omega), show (6 : Int32) = nI 6 from rfl, F1, ob_s, F2, ob_s]
    unfold X12_readIsland_j24
    rw [if_neg (bad_le hb), ob_s, j95_bad hb]
    exact ⟨6, tsq b e j, j, _, r, hb, rfl, rfl, rsB_flt _, rfl⟩
  · obtain ⟨tn, u1, u2, u3, u4⟩ := p_next h hJ
    rw [uI_uI] at u2
    rw [if_neg c4, if_pos (by omega), u2, ob_s]
    unfold X12_readIsland_j24
    rw [h12, if_pos (show nI 0 ≤ (0 : Int32) by decide)]
    rcases p_new (s0 := s0) h hJ h12 hc0 hc1 h16 i4 hR.2.1 hr0 hn hn2 (fi := 16) (ma := m) (by omega) with ⟨x, t1, x1, f1, f2, f3, f4, f5, f6, f7, f8, f9⟩ | ⟨f, t1, f1, f2, f3, f4, f5⟩
    · rw [uI_uI] at f2 f3 f5
      rw [uI_uI, uI_uI] at f4
      have ea : pX0_addIsland r (lN x) = some (uI (uB r 2 (vp_updL (r.2.2.2 2) m (lN x))) 0 (nI (m + 1))) := by
        unfold pX0_addIsland
        rw [hr0, if_neg (show ¬ (4 : Int32) ≤ nI m from nI_ge (b := 4) (by omega) (by omega)), g_inT (by omega) (by omega), nI_clamp (by omega), thn_eq, thn_eq, show (uB r 2 (vp_updL (r.2.2.2 2) m (lN x))).1 0 = nI m from hr0, nI_1]
      have c1 : t1.2.2.1 4 1441 = nI m := by rw [f8]; exact hc1
      rw [show pX12_readNew s (16 : Int32) (nI m) = some t1 from f1, ob_s, f2, ob_s, if_pos rfl, f3, ob_s, ea, ob_s, f4, ob_s, f6, if_pos (show nI 0 = (0 : Int32) from rfl), show (1441 : Int32) = nI 1441 from rfl, g_inT (by omega) (by omega), g_inT (by omega) (by omega), nI_clamp (by omega), c1, nI_1, thn_eq, ob_s]
      have v1 : blk ((uA t1 4 (upd (t1.2.2.1 4) 1441 (nI (m + 1)))).2.2.1 4) 1440 (upN B 1 (m + 1)) := by rw [uA_at]; exact blk_up (o := 1440) (j := 1) (by rw [f8]; exact hB) (by omega)
      have v2 := prR_4 f5 (upd (t1.2.2.1 4) 1441 (nI (m + 1)))
      have v3 : rsB s (uA t1 4 (upd (t1.2.2.1 4) 1441 (nI (m + 1)))) := rsB_tr f7 (rsB_4 (x := 1441) _ _ (by omega))
      have v4 : (uA t1 4 (upd (t1.2.2.1 4) 1441 (nI (m + 1)))).1 12 = nI 0 := f6
      have v5 : (uA t1 4 (upd (t1.2.2.1 4) 1441 (nI (m + 1)))).2.2.2 5 = vp_updL (s.2.2.2 5) (96 + m) (lN (cv 8 x)) := by
        show t1.2.2.2 5 = _
        rw [f9]
      generalize uA t1 4 (upd (t1.2.2.1 4) 1441 (nI (m + 1))) = t2 at *
      unfold X12_book_j95
      rw [r_isClose v2, ob_s, show (31 : Int32) = nI 31 from rfl]
      rcases must_t v2 v4 (k := 31) (by omega) with ⟨t, g1, g2, g3, g4⟩ | ⟨f, g1, g2, g3, g4⟩
      · left
        rw [uI_uI] at g2 g3
        rw [g1, ob_s, g2, ob_s]
        have ho : ∀ y, y ≠ 1 → upN B 1 (m + 1) y = B y := fun y hy => upN_ne _ _ hy
        refine ⟨upN B 1 (m + 1), upN nmI m x, t, j + 1 + 1 + 1, _, rfl, rfl, ⟨g3, nx_12 g4 v4, by rw [g4.2.2]; exact v1, o_wf ho hw (by rw [upN_at]; omega), o_bk ho hR (by rw [upN_at]; rfl) (fun j hj => if_neg hj) rfl, fun i hi => ?_, fun i hi => ?_, fun i hi hi2 => ?_⟩, rsB_tr v3 (rsB_nx g4), ho 0 (by decide), by rw [upN_at, h1]⟩
        · rw [ho 0 (by decide)] at hi
          rw [g4.2.2, v5, updL_ne _ _ (by omega), show (uI (uB r 2 (vp_updL (r.2.2.2 2) m (lN x))) 0 (nI (m + 1))).2.2.2 3 = r.2.2.2 3 from uB_ne (n := 2) (k := 3) r _ (by decide)]
          exact hn i hi
        · rw [upN_at] at hi
          rw [g4.2.2, v5, show (uI (uB r 2 (vp_updL (r.2.2.2 2) m (lN x))) 0 (nI (m + 1))).2.2.2 2 = vp_updL (r.2.2.2 2) m (lN x) from uB_at r 2 _]
          by_cases ci : i = m
          · rw [ci, updL_at, updL_at, upN_at]; exact ⟨rfl, rfl, x1⟩
          · rw [updL_ne _ _ (by omega), updL_ne _ _ ci, upN_ne _ _ ci]; exact hn2 i (by omega)
        · rw [ho 0 (by decide)] at hi
          exact hz i hi hi2
      · right
        rw [g3, ob_s, g4, ob_s]
        exact ⟨f, _, j + 1 + 1, _, _, ⟨rfl, g1, g2⟩, rfl, rfl, rsB_tr v3 (rsB_flt _), rfl⟩
    · right
      rw [uI_uI] at f5
      rw [show pX12_readNew s (16 : Int32) (nI m) = some t1 from f3, ob_s, f5, ob_s, if_neg Bool.false_ne_true, if_neg (bad_eq f1), ob_s, j95_bad f1]
      exact ⟨f, tsq b e (j + 1), j + 1, t1, r, f1, f2, rfl, f4, rfl⟩
/-- the class's loop over a book, z rounds gone -/
def LBk (s0 : RS) (z : Nat) (g : Bool) (q r : RS) : Option (RS × RS) := a_loop (fun (y : Bool × Int32 × RS × RS) => X1_readBook_b12 y.1 y.2.1 s0 y.2.2.1 y.2.2.2) (100000 - z) (g, nI z, q, r)
theorem LBk_s {g' : Bool} {q' r' : RS} (hz : z < 800) (h : X1_readBook_b12 true (nI z) s0 q r = some (.inl (g', nI (z + 1), q', r'))) : LBk s0 z true q r = LBk s0 (z + 1) g' q' r' := by
  unfold LBk
  rw [show 100000 - z = (100000 - (z + 1)) + 1 by omega]
  exact lp_s (body := fun (y : Bool × Int32 × RS × RS) => X1_readBook_b12 y.1 y.2.1 s0 y.2.2.1 y.2.2.2) h
theorem LBk_f (hz : z < 900) : LBk s0 z false q r = some (q, r) := by
  unfold LBk
  rw [show 100000 - z = (100000 - (z + 1)) + 1 by omega]
  refine lp_e (body := fun (y : Bool × Int32 × RS × RS) => X1_readBook_b12 y.1 y.2.1 s0 y.2.2.1 y.2.2.2) ?_
  dsimp only [X1_readBook_b12]
  by_cases c : (900 : Int32) ≤ nI z
  · rw [if_pos c]
  · rw [if_neg c, if_neg Bool.false_ne_true]
theorem kw_c : ∀ K, K ≤ 33 → kwK K = m1I ∨ ∃ kd, kd ≤ 4 ∧ K ≠ 0 ∧ kwK K = nI kd := by
  refine k34 (fun K h => ?_)
  rcases h with rfl | rfl | rfl | rfl | rfl | rfl | rfl | rfl | rfl | rfl | rfl | rfl | rfl | rfl | rfl | rfl | rfl | rfl | rfl | rfl | rfl | rfl | rfl | rfl | rfl | rfl | rfl | rfl | rfl | rfl | rfl | rfl | rfl | rfl
  all_goals first
    | exact Or.inl rfl
    | exact Or.inr ⟨0, by decide, by decide, rfl⟩
    | exact Or.inr ⟨1, by decide, by decide, rfl⟩
    | exact Or.inr ⟨2, by decide, by decide, rfl⟩
    | exact Or.inr ⟨3, by decide, by decide, rfl⟩
    | exact Or.inr ⟨4, by decide, by decide, rfl⟩
/-- a round, both ways -/
theorem p_part (hV : bV tb b e T q0 B nm nmI j s r) (hJ : kJ tb b e j ≠ 33) (hz : z < 800) : (∃ B' nm' nmI' s' j' r', X12_book_b49 s = some (.inl s') ∧ X1_readBook_b12 true (nI z) s0 (uI q0 10 (nI j)) r = some (.inl (true, nI (z + 1), uI q0 10 (nI j'), r')) ∧ bV tb b e T q0 B' nm' nmI' j' s' r' ∧ rsB s s' ∧ B' 0 + B' 1 = B 0 + B 1 + 1) ∨ ∃ f st j' s' r', badR f s' ∧ s'.1 13 = nI st ∧ X12_book_b49 s = some (.inl s') ∧ rsB s s' ∧ X1_readBook_b12 true (nI z) s0 (uI q0 10 (nI j)) r = some (.inl (false, nI (z + 1), fltX f st (uI q0 10 (nI j')), r')) := by
  have h := hV.1
  have h12 := hV.2.1
  have hle' : kJ tb b e j ≤ 33 := kR_le tb b e (tsq b e j)
  have tk := (r_tok h).2.2.2
  have hb : X12_book_b49 s = if kJ tb b e j = 0 then (pX12_readIsland s).bind fun x13 => X12_book_j95 x13 else if kwK (kJ tb b e j) < 0 then (pX12_wrong s).bind fun x9 => X12_book_j95 x9 else (pX12_readChange s).bind fun x12 => X12_book_j95 x12 := by
    unfold X12_book_b49
    rw [h12, if_pos (show nI 0 = (0 : Int32) from rfl), if_neg (show ¬ s.1 14 = (0 : Int32) from fun x => hJ (tk.mp x)), r_isIslandWord h.1 h.2.2.1, ob_s, r_kindWord h.1 h.2.2.1, ob_s, show decide (kR tb b e (tsq b e j) = 0) = decide (kJ tb b e j = 0) from rfl]
    by_cases c : kJ tb b e j = 0
    · rw [if_pos c, decide_eq_true c, if_pos rfl]
    · rw [if_neg c, decide_eq_false c, if_neg Bool.false_ne_true]; rfl
  have hx : X1_readBook_b12 true (nI z) s0 (uI q0 10 (nI j)) r = if kJ tb b e j = 0 then (pX1_readIsland s0 (uI q0 10 (nI j)) r).bind fun x6 => X1_readBook_j54 (nI z) x6.1 s0 x6.2.1 x6.2.2 else (pX1_readChange s0 (uI q0 10 (nI j)) r).bind fun x4 => X1_readBook_j54 (nI z) x4.1 s0 x4.2.1 x4.2.2 := by
    unfold X1_readBook_b12
    rw [if_neg (show ¬ (900 : Int32) ≤ nI z from nI_ge (b := 900) (by omega) (by omega)), if_pos rfl, x_isEndT h hJ, ob_s, if_neg Bool.false_ne_true, x_kindHere h, ob_s, show (0 : Int32) = nI 0 from rfl, ifE (by omega) (by omega)]
  have j54 : ∀ g q r, X1_readBook_j54 (nI z) g s0 q r = some (.inl (g, nI (z + 1), q, r)) := fun g q r => by
    unfold X1_readBook_j54
    rw [thn_eq, nI_1]
  rw [hb, hx]
  by_cases c0 : kJ tb b e j = 0
  · rw [if_pos c0, if_pos c0]
    rcases p_island (s0 := s0) hV hJ with ⟨B', nmI', s', j', r', f1, f2, f3, f4, f5, f6⟩ | ⟨f, st, j', s', r', f1, f2, f3, f4, f5⟩
    · left
      refine ⟨B', nm, nmI', s', j', r', f1, by rw [f2, ob_s, j54], f3, f4, by omega⟩
    · right
      exact ⟨f, st, j', s', r', f1, f2, f3, f4, by rw [f5, ob_s, j54]⟩
  · rw [if_neg c0, if_neg c0]
    rcases kw_c _ hle' with k1 | ⟨kd, k1, k2, k3⟩
    · right
      obtain ⟨w1, w2⟩ := p_wrong h h12
      have hF : ∃ F, 1 ≤ F ∧ F ≤ 7 ∧ (if kJ tb b e j = 32 then 1 else 2) = F := by
        by_cases c32 : kJ tb b e j = 32
        · rw [if_pos c32]; exact ⟨1, by omega, by omega, rfl⟩
        · rw [if_neg c32]; exact ⟨2, by omega, by omega, rfl⟩
      obtain ⟨F, F1, F2, F3⟩ := hF
      rw [F3] at w1 w2
      have hbd : badR F (fltR F (tsq b e j) s) := ⟨rfl, F1, F2⟩
      rw [k1, if_pos (show m1I < (0 : Int32) by decide), w1, ob_s, j95_bad hbd]
      refine ⟨F, tsq b e j, j, _, r, hbd, rfl, rfl, rsB_flt _, ?_⟩
      unfold pX1_readChange
      rw [x_kindHere h, ob_s, x_kindOf2 _ hle', k1, ob_s, if_pos (show m1I = (-1 : Int32) from rfl), w2, ob_s, ob_s, j54]
    · rw [k3, if_neg (nI_pos (by omega))]
      rcases p_change (s0 := s0) hV k3 k1 with ⟨B', nm', s', j', r', f1, f2, f3, f4, f5, f6⟩ | ⟨f, st, j', s', r', f1, f2, f3, f4, f5⟩
      · left
        exact ⟨B', nm', nmI, s', j', r', f1, by rw [f2, ob_s, j54], f3, f4, by omega⟩
      · right
        exact ⟨f, st, j', s', r', f1, f2, f3, f4, by rw [f5, ob_s, j54]⟩
theorem p_parts : ∀ (m N z j : Nat) (B nm nmI : Nat → Nat) (s r : RS), 21 - (B 0 + B 1) ≤ m → m + 1 < N → z ≤ B 0 + B 1 → bV tb b e T q0 B nm nmI j s r → (∃ B' nm' nmI' j' s' r', a_loop (fun (q : RS) => X12_book_b49 q) N s = some s' ∧ LBk s0 z true (uI q0 10 (nI j)) r = some (uI q0 10 (nI j'), r') ∧ bV tb b e T q0 B' nm' nmI' j' s' r' ∧ rsB s s') ∨ ∃ f st j' s' r', badR f s' ∧ s'.1 13 = nI st ∧ a_loop (fun (q : RS) => X12_book_b49 q) N s = some s' ∧ rsB s s' ∧ LBk s0 z true (uI q0 10 (nI j)) r = some (fltX f st (uI q0 10 (nI j')), r')
  | 0, N, z, j, B, nm, nmI, s, r, hm, hN, hz, hV => by
    have h16 := hV.2.2.2.1.1
    have h4 := hV.2.2.2.1.2.1
    omega
  | m + 1, 0, z, j, B, nm, nmI, s, r, hm, hN, hz, hV => by omega
  | m + 1, N + 1, z, j, B, nm, nmI, s, r, hm, hN, hz, hV => by
    have h16 := hV.2.2.2.1.1
    have h4 := hV.2.2.2.1.2.1
    have h := hV.1
    have h12 := hV.2.1
    have tk := (r_tok h).2.2.2
    by_cases c33 : kJ tb b e j = 33
    · left
      have r0 : (fun (q : RS) => X12_book_b49 q) s = some (.inr s) := by
        dsimp only [X12_book_b49]
        rw [h12, if_pos (show nI 0 = (0 : Int32) from rfl), if_pos (show s.1 14 = (0 : Int32) from tk.mpr c33)]
      have x0 : LBk s0 z true (uI q0 10 (nI j)) r = some (uI q0 10 (nI j), r) := by
        unfold LBk
        rw [show 100000 - z = (100000 - (z + 1)) + 1 by omega]
        refine lp_e (body := fun (y : Bool × Int32 × RS × RS) => X1_readBook_b12 y.1 y.2.1 s0 y.2.2.1 y.2.2.2) ?_
        dsimp only [X1_readBook_b12]
        rw [if_neg (show ¬ (900 : Int32) ≤ nI z from nI_ge (b := 900) (by omega) (by omega)), if_pos rfl, x_isEndE h c33, ob_s, if_pos rfl]
      exact ⟨B, nm, nmI, j, s, r, lp_e r0, x0, hV, rsB_rf s⟩
    · rcases p_part (s0 := s0) (z := z) hV c33 (by omega) with ⟨B', nm', nmI', s', j', r', f1, f2, f3, f4, f5⟩ | ⟨f, st, j', s', r', f1, f2, f3, f4, f5⟩
      · have ih := p_parts m N (z + 1) j' B' nm' nmI' s' r' (by omega) (by omega) (by omega) f3
        rw [lp_s (body := fun (q : RS) => X12_book_b49 q) f1, LBk_s (by omega) f2]
        rcases ih with ⟨B2, nm2, nmI2, j2, s2, r2, g1, g2, g3, g4⟩ | ⟨f, st, j2, s2, r2, g1, g2, g3, g4, g5⟩
        · left
          exact ⟨B2, nm2, nmI2, j2, s2, r2, g1, g2, g3, rsB_tr f4 g4⟩
        · right
          exact ⟨f, st, j2, s2, r2, g1, g2, g3, rsB_tr f4 g4, g5⟩
      · right
        have r1 : (fun (q : RS) => X12_book_b49 q) s' = some (.inr s') := by
          dsimp only [X12_book_b49]
          rw [if_neg (bad_eq f1)]
        rw [lp_s (body := fun (q : RS) => X12_book_b49 q) f3, LBk_s (by omega) f5, LBk_f (by omega), show N = (N - 1) + 1 by omega, lp_e r1]
        exact ⟨f, st, j', s', r', f1, f2, rfl, f4, rfl⟩
end V
