/-! TRAYS -/
/-- a TRAY in the class and in the reference -/
def trR (s : RS) (i : Nat) (T : RS) : Prop := (s.2.2.1 1 i = m1I ∧ T.1 1 = m1I) ∨ ∃ so m, so < 4 ∧ m ≤ 60 ∧ s.2.2.1 0 i = nI so ∧ s.2.2.1 1 i = nI m ∧ T.1 1 = nI so ∧ T.1 2 = nI m ∧ ∀ k, k < m → T.2.2.2 0 k = s.2.2.2 2 (60 * i + k)
def rsT (s s' : RS) : Prop := (s'.1 8 = s.1 8 ∧ s'.1 10 = s.1 10 ∧ s'.1 11 = s.1 11 ∧ s'.1 22 = s.1 22 ∧ s'.1 43 = s.1 43) ∧ (s'.2.1 2 = s.2.1 2 ∧ s'.2.1 3 = s.2.1 3) ∧ (s'.2.2.1 3 = s.2.2.1 3 ∧ s'.2.2.1 4 = s.2.2.1 4 ∧ s'.2.2.1 14 = s.2.2.1 14) ∧ s'.2.2.2 5 = s.2.2.2 5
def trM (i : Nat) (s s' : RS) : Prop := rsT s s' ∧ (∀ j, j ≠ i → s'.2.2.1 0 j = s.2.2.1 0 j ∧ s'.2.2.1 1 j = s.2.2.1 1 j) ∧ ∀ k, (k < 60 * i ∨ 60 * i + 60 ≤ k) → s'.2.2.2 2 k = s.2.2.2 2 k
theorem rsT_of {s s' : RS} (h : rsame s s') : rsT s s' := ⟨h.1, h.2.1, h.2.2.1.2.2, h.2.2.2.2⟩
theorem trM_ot {s s' T : RS} {i j : Nat} (h : trM i s s') (hj : j ≠ i) (ht : trR s j T) : trR s' j T := by
  obtain ⟨h1, h2, h3⟩ := h
  obtain ⟨e1, e2⟩ := h2 j hj
  rcases ht with ⟨a, b⟩ | ⟨so, m, a1, a2, a3, a4, a5, a6, a7⟩
  · exact Or.inl ⟨e2.trans a, b⟩
  · exact Or.inr ⟨so, m, a1, a2, e1.trans a3, e2.trans a4, a5, a6, fun k hk => by rw [a7 k hk, h3 _ (by omega)]⟩
theorem trR_same {s s' T : RS} {i : Nat} (h : rsame s s') (ht : trR s i T) : trR s' i T := by
  obtain ⟨h0, h1, _, _, _⟩ := h.2.2.1
  have h2 := h.2.2.2.1
  unfold trR
  rw [h0, h1, h2]; exact ht
theorem is_tray (s : RS) (a0 : Int32) : (∃ i, i < 4 ∧ a0 = nI i ∧ pX12_isTray s a0 = some true ∧ pX11_isTray a0 = some true ∧ ¬ a0 < 0 ∧ ¬ (4 : Int32) ≤ a0) ∨ (pX12_isTray s a0 = some false ∧ pX11_isTray a0 = some false ∧ (a0 < 0 ∨ ¬ a0 < 0 ∧ (4 : Int32) ≤ a0)) := by
  have e3 : (3 : Int64) = (nI 4 - (1 : Int32)).toInt64 := by decide +kernel
  unfold pX12_isTray pX11_isTray
  rw [e3]
  rcases isInM a0 (m := 4) (by omega) with ⟨t, ht, rfl, e, h1, h2, h3⟩ | ⟨e, h⟩
  · refine Or.inl ⟨t, ht, rfl, by rw [e]; rfl, ?_, h1, h3⟩
    rw [if_neg h1, if_neg (show ¬ (4 : Int32) ≤ nI t from h3)]
  · rcases h with h | ⟨h1, h2, h3⟩
    · exact Or.inr ⟨by rw [e]; rfl, by rw [if_pos h], Or.inl h⟩
    · exact Or.inr ⟨by rw [e]; rfl, by rw [if_neg h1, if_pos (show (4 : Int32) ≤ a0 from h2)], Or.inr ⟨h1, h2⟩⟩
theorem tr_in {γ : Type} {i : Nat} (h : i < 4) (e : Option γ) : g_in (nI i) 4 e = e := g_inT h (by omega)
section Q
variable {s s0 T : RS}
theorem q_tray (a0 a1 a2 : Int32) (ht : ∀ i, i < 4 → a0 = nI i → trR s i T) : (∃ s', pX12_tray s a0 a1 a2 = some (false, s') ∧ rsame s s' ∧ pX11_tray s0 T a0 a1 a2 = some (false, uI s0 11 (s'.1 0), T)) ∨ ∃ i s' T', i < 4 ∧ a0 = nI i ∧ pX12_tray s a0 a1 a2 = some (true, s') ∧ trM i s s' ∧ s'.1 0 = 0 ∧ trR s' i T' ∧ pX11_tray s0 T a0 a1 a2 = some (true, uI s0 11 0, T') := by
  unfold pX12_tray pX11_tray X12_tray_j28 X11_tray_j14 pX9_isSort
  simp only [thn_eq]
  rcases is_tray s a0 with ⟨i, hi, rfl, e1, e2, h1, h2⟩ | ⟨e1, e2, h⟩
  · rw [e2, ob_s, if_pos rfl, if_neg h1, if_neg h2]
    by_cases c1 : a1 < 0
    · rw [if_pos c1, if_pos c1]
      exact Or.inl ⟨_, rfl, rq_3 _ _ _ _, rfl⟩
    · obtain ⟨so, so1, rfl⟩ := nI_of c1
      rw [if_neg c1, if_neg c1, show (3 : Int32) = nI 3 from rfl, ifLe (by omega) (by omega), ifLt (by omega) (by omega)]
      by_cases c2 : so ≤ 3
      · rw [if_pos c2, if_neg (show ¬ 3 < so by omega), ob_s, if_pos rfl]
        by_cases c3 : a2 ≤ (60 : Int32)
        · rw [if_pos c3, if_pos c3]
          by_cases c4 : (0 : Int32) ≤ a2
          · rw [if_pos c4, if_pos c4]
            have hm : ∃ m, m ≤ 60 ∧ a2 = nI m := by
              have : ¬ a2 < 0 := fun q => by
                rw [Int32.lt_iff_toInt_lt] at q
                rw [Int32.le_iff_toInt_le] at c4
                omega
              obtain ⟨j, h5, h6⟩ := nI_of2 (M := 60) (n := 60) rfl this c3
              exact ⟨j, h5, h6⟩
            obtain ⟨m, m60, rfl⟩ := hm
            rw [tr_in hi, tr_in hi, tr_in hi, nI_clamp (by omega)]
            -- the reference's row
            obtain ⟨s', g1, g2, g3⟩ := lp_m (body := fun (q : Int32 × RS) => X12_tray_b74 (nI i) (nI m) q.1 q.2) (I := fun d q => ∃ k s', k ≤ m ∧ d = m - k ∧ q = (nI k, s') ∧ sxB 2 (uA (uA (uI (uI s 1 0) 0 0) 0 (upd ((uI (uI s 1 (0 : Int32)) 0 (0 : Int32)).2.2.1 0) i (nI so))) 1 (upd ((uA (uI (uI s 1 0) 0 0) 0 (upd ((uI (uI s 1 (0 : Int32)) 0 (0 : Int32)).2.2.1 0) i (nI so))).2.2.1 1) i (nI m))) s' ∧ ∀ x, s'.2.2.2 2 x = if 60 * i ≤ x ∧ x < 60 * i + k then 0 else s.2.2.2 2 x) (P := fun s' => sxB 2 (uA (uA (uI (uI s 1 0) 0 0) 0 (upd ((uI (uI s 1 (0 : Int32)) 0 (0 : Int32)).2.2.1 0) i (nI so))) 1 (upd ((uA (uI (uI s 1 0) 0 0) 0 (upd ((uI (uI s 1 (0 : Int32)) 0 (0 : Int32)).2.2.1 0) i (nI so))).2.2.1 1) i (nI m))) s' ∧ ∀ x, s'.2.2.2 2 x = if 60 * i ≤ x ∧ x < 60 * i + m then 0 else s.2.2.2 2 x) (fun d q hd => by
              obtain ⟨k, s', hk, rfl, rfl, hs, hx⟩ := hd
              dsimp only [X12_tray_b74]
              rcases Nat.lt_or_eq_of_le hk with c | c
              · left
                refine ⟨m - (k + 1), (nI (k + 1), uB s' 2 (vp_updL (s'.2.2.2 2) (60 * i + k) 0)), by omega, ⟨k + 1, _, by omega, rfl, rfl, sxB_tr hs (sxB_uB _ _ _), fun x => ?_⟩, ?_⟩
                · rw [uB_at]
                  by_cases e : x = 60 * i + k
                  · rw [e, updL_at, if_pos (by omega)]
                  · rw [updL_ne _ _ e, hx x]
                    by_cases q : 60 * i ≤ x ∧ x < 60 * i + k
                    · rw [if_pos q, if_pos (by omega)]
                    · rw [if_neg q, if_neg (by omega)]
                · rw [if_neg (nI_ge c (by omega)), show (60 : Int32) = nI 60 from rfl, pk_mul, nI_add, g_inT (by omega) (by omega), nI_clamp (by omega), thn_eq, thn_eq, nI_1]
              · subst c
                exact Or.inr ⟨s', ⟨hs, hx⟩, by rw [if_pos (nI_le (Nat.le_refl _) (by omega))]⟩) FU m (nI 0, uA (uA (uI (uI s 1 0) 0 0) 0 (upd ((uI (uI s 1 (0 : Int32)) 0 (0 : Int32)).2.2.1 0) i (nI so))) 1 (upd ((uA (uI (uI s 1 0) 0 0) 0 (upd ((uI (uI s 1 (0 : Int32)) 0 (0 : Int32)).2.2.1 0) i (nI so))).2.2.1 1) i (nI m))) (by show m < 100000; omega) ⟨0, _, Nat.zero_le _, rfl, rfl, sxB_rf _ _, fun x => by rw [if_neg (by omega)]; rfl⟩
            -- the class's row
            have cls : ∃ T', pX9_layOut T (nI so) (nI m) = some T' ∧ T'.1 1 = nI so ∧ T'.1 2 = nI m ∧ ∀ k, k < 60 → T'.2.2.2 0 k = 0 := by
              unfold pX9_layOut
              simp only [thn_eq]
              obtain ⟨T', k1, k2, k3⟩ := lp_m (body := fun (q : Int32 × RS) => X9_layOut_b12 q.1 q.2) (I := fun d q => ∃ k T', k ≤ 60 ∧ d = 60 - k ∧ q = (nI k, T') ∧ sxB 0 (uI (uI T 1 (nI so)) 2 (nI m)) T' ∧ ∀ x, x < k → T'.2.2.2 0 x = 0) (P := fun T' => sxB 0 (uI (uI T 1 (nI so)) 2 (nI m)) T' ∧ ∀ x, x < 60 → T'.2.2.2 0 x = 0) (fun d q hd => by
                obtain ⟨k, T', hk, rfl, rfl, hs, hx⟩ := hd
                dsimp only [X9_layOut_b12]
                rcases Nat.lt_or_eq_of_le hk with c | c
                · left
                  refine ⟨60 - (k + 1), (nI (k + 1), uB T' 0 (vp_updL (T'.2.2.2 0) k 0)), by omega, ⟨k + 1, _, by omega, rfl, rfl, sxB_tr hs (sxB_uB _ _ _), fun x hx2 => ?_⟩, ?_⟩
                  · rw [uB_at]
                    by_cases e : x = k
                    · rw [e, updL_at]
                    · rw [updL_ne _ _ e]; exact hx x (by omega)
                  · rw [if_neg (show ¬ (60 : Int32) ≤ nI k from nI_ge (b := 60) c (by omega)), g_inT (by omega) (by omega), nI_clamp (by omega), thn_eq, thn_eq, nI_1]
                · subst c
                  exact Or.inr ⟨T', ⟨hs, hx⟩, by rw [if_pos (show (60 : Int32) ≤ nI 60 by decide)]⟩) FU 60 (nI 0, uI (uI T 1 (nI so)) 2 (nI m)) (by decide) ⟨0, _, Nat.zero_le _, rfl, rfl, sxB_rf _ _, fun x h => absurd h (Nat.not_lt_zero _)⟩
              refine ⟨T', bd k1 rfl, ?_, ?_, k3⟩
              · rw [k2.1]; rfl
              · rw [k2.1]; rfl
            obtain ⟨T', t1, t2, t3, t4⟩ := cls
            right
            refine ⟨i, s', T', hi, rfl, bd g1 rfl, ⟨⟨?_, ?_, ?_, ?_⟩, fun j hj => ?_, fun k hk => ?_⟩, ?_, ?_, ?_⟩
            · rw [g2.1]; exact ⟨rfl, rfl, rfl, rfl, rfl⟩
            · rw [g2.2.1]; exact ⟨rfl, rfl⟩
            · rw [g2.2.2.1]; exact ⟨rfl, rfl, rfl⟩
            · exact g2.2.2.2 5 (by decide)
            · rw [g2.2.2.1]
              refine ⟨?_, ?_⟩
              · show upd (s.2.2.1 0) i (nI so) j = _
                exact upd_ne _ _ hj
              · show upd (s.2.2.1 1) i (nI m) j = _
                exact upd_ne _ _ hj
            · rw [g3, if_neg (by omega)]
            · rw [g2.1]; rfl
            · refine Or.inr ⟨so, m, by omega, m60, ?_, ?_, t2, t3, fun k hk => ?_⟩
              · rw [g2.2.2.1]
                show upd (s.2.2.1 0) i (nI so) i = _
                exact upd_at _ _ _
              · rw [g2.2.2.1]
                show upd (s.2.2.1 1) i (nI m) i = _
                exact upd_at _ _ _
              · rw [t4 k (by omega), g3, if_pos (by omega)]
            · rw [t1]; rfl
          · rw [if_neg c4, if_neg c4]
            exact Or.inl ⟨_, rfl, rq_3 _ _ _ _, rfl⟩
        · rw [if_neg c3, if_neg c3]
          exact Or.inl ⟨_, rfl, rq_3 _ _ _ _, rfl⟩
      · rw [if_neg c2, if_pos (show 3 < so by omega)]
        exact Or.inl ⟨_, rfl, rq_3 _ _ _ _, rfl⟩
  · refine Or.inl ⟨uI (uI (uI s 1 0) 0 0) 0 1, ?_, rq_3 _ _ _ _, ?_⟩
    · rcases h with h | ⟨h1, h2⟩
      · rw [if_pos h]; rfl
      · rw [if_neg h1, if_pos h2]; rfl
    · rw [e2]; rfl
/-- what is wrong with a place -/
theorem why_place (a0 a1 : Int32) (ht : ∀ i, i < 4 → a0 = nI i → trR s i T) : (∃ i so m k, i < 4 ∧ so < 4 ∧ m ≤ 60 ∧ k < m ∧ a0 = nI i ∧ a1 = nI k ∧ s.2.2.1 0 i = nI so ∧ s.2.2.1 1 i = nI m ∧ T.1 1 = nI so ∧ T.1 2 = nI m ∧ (∀ k, k < m → T.2.2.2 0 k = s.2.2.2 2 (60 * i + k)) ∧ pX12_placed s a0 a1 = some (0 : Int32) ∧ pX11_faultOfPlace s0 T a0 a1 = some (0 : Int32)) ∨ ∃ w : Int32, (w = 1 ∨ w = 3 ∨ w = 4) ∧ pX12_placed s a0 a1 = some w ∧ pX11_faultOfPlace s0 T a0 a1 = some w := by
  unfold pX12_placed pX12_trayed pX11_faultOfPlace
  rcases is_tray s a0 with ⟨i, hi, rfl, e1, e2, h1, h2⟩ | ⟨e1, e2, h⟩
  · have h4 : nI i < (4 : Int32) := nI_lt (b := 4) hi (by omega)
    rw [e2, ob_s, if_pos rfl, if_neg h1, if_pos h4, tr_in hi, tr_in hi, tr_in hi, tr_in hi, nI_clamp (by omega)]
    unfold pX9_isMissing pX9_spans
    rcases ht i hi rfl with ⟨m1, m2⟩ | ⟨so, m, a1', a2', a3, a4, a5, a6, a7⟩
    · right
      refine ⟨3, Or.inr (Or.inl rfl), ?_, ?_⟩
      · rw [m1, if_neg (show ¬ (0 : Int32) ≤ m1I by decide)]; rfl
      · rw [m2, if_pos (show m1I = (-1 : Int32) from rfl)]; rfl
    · rw [a4, a5, a6, if_pos (show (0 : Int32) ≤ nI m from nI_pos' (by omega)), if_neg (show ¬ nI so = (-1 : Int32) by rw [show (-1 : Int32) = m1I from rfl, m1_ne (by omega)]; exact not_false), ob_s, ob_s, if_pos (show (0 : Int32) ≤ 0 by decide), if_neg (show ¬ (false = true) by decide)]
      by_cases c1 : a1 < 0
      · right
        refine ⟨4, Or.inr (Or.inr rfl), by rw [if_pos c1], ?_⟩
        rw [if_pos c1]; rfl
      · obtain ⟨k, k1, rfl⟩ := nI_of c1
        rw [if_neg c1, if_neg c1, ifLt (by omega) (by omega), if_neg (show ¬ (1 : Int32) < 0 by decide)]
        by_cases c2 : k < m
        · left
          refine ⟨i, so, m, k, hi, a1', a2', c2, rfl, rfl, a3, a4, rfl, rfl, a7, by rw [if_pos c2], ?_⟩
          rw [if_neg (nI_nlt (by omega) (by omega)), sbI (by omega), show (1 : Int32) = nI 1 from rfl, if_neg (nI_nlt (by omega) (by omega))]; rfl
        · right
          refine ⟨4, Or.inr (Or.inr rfl), by rw [if_neg c2], ?_⟩
          by_cases c3 : m < k
          · rw [if_pos (nI_lt c3 (by omega))]; rfl
          · rw [if_neg (nI_nlt (by omega) (by omega)), sbI (by omega), show (1 : Int32) = nI 1 from rfl, if_pos (nI_lt (by omega) (by omega))]; rfl
  · right
    refine ⟨1, Or.inl rfl, ?_, ?_⟩
    · rcases h with h | ⟨h1, h2⟩
      · rw [if_pos h]; rfl
      · rw [if_neg h1, if_neg (show ¬ a0 < (4 : Int32) from fun q => by
          rw [Int32.lt_iff_toInt_lt] at q
          rw [Int32.le_iff_toInt_le] at h2
          omega)]; rfl
    · rw [e2]; rfl
theorem w_le4 {w : Int32} (h : w = 1 ∨ w = 3 ∨ w = 4) : ¬ w ≤ 0 ∧ ¬ w = 0 := by
  rcases h with rfl | rfl | rfl <;> decide
theorem q_read (a0 a1 : Int32) (ht : ∀ i, i < 4 → a0 = nI i → trR s i T) : ∃ a s', pX12_read s a0 a1 = some (a, s') ∧ rsame s s' ∧ pX11_read s0 T a0 a1 = some (a, uI s0 11 (s'.1 0)) := by
  unfold pX12_read pX11_read
  simp only [thn_eq]
  rcases why_place (s := uI s 1 0) (s0 := s0) (T := T) a0 a1 ht with ⟨i, so, m, k, h1, h2, h3, h4, rfl, rfl, a1, a2, a3, a4, a5, e1, e2⟩ | ⟨w, h, e1, e2⟩
  · have a5' : T.2.2.2 0 k = (uI (uI s 1 (0 : Int32)) 0 (0 : Int32)).2.2.2 2 (60 * i + k) := a5 k h4
    rw [e1, e2, ob_s, ob_s, if_pos (show (uI (uI s 1 (0 : Int32)) 0 (0 : Int32)).1 0 ≤ 0 from (by decide : (0 : Int32) ≤ 0)), if_pos rfl, tr_in h1, show (60 : Int32) = nI 60 from rfl, pk_mul, nI_add, g_inT (by omega) (by omega), nI_clamp (by omega)]
    unfold pX9_get
    rw [a4, if_neg (show ¬ nI k < 0 from nI_pos (by omega)), if_neg (nI_ge h4 (by omega)), g_inT (by omega) (by omega), nI_clamp (by omega), a5', ob_s]
    exact ⟨_, _, rfl, rq_2 _ _ _, rfl⟩
  · rw [e1, e2, ob_s, ob_s, if_neg (show ¬ (uI (uI s 1 (0 : Int32)) 0 w).1 0 ≤ 0 from (w_le4 h).1), if_neg (w_le4 h).2]
    exact ⟨_, _, rfl, rq_2 _ _ _, rfl⟩
theorem cut_eq {so : Nat} (h : so < 4) {T : RS} (hT : T.1 1 = nI so) (v : Int64) : pX9_cut T v = pX12_cut (nI so) v := by
  unfold pX9_cut pX12_cut
  rw [hT]
theorem cut_some (so : Int32) (v : Int64) : ∃ x, pX12_cut so v = some x := by
  unfold pX12_cut
  by_cases c0 : so = 0
  · rw [if_pos c0]; exact ⟨_, rfl⟩
  · rw [if_neg c0]
    by_cases c1 : so = 1
    · rw [if_pos c1]; exact ⟨_, rfl⟩
    · rw [if_neg c1]
      by_cases c2 : so = 2
      · rw [if_pos c2]; exact ⟨_, rfl⟩
      · rw [if_neg c2]; exact ⟨_, rfl⟩
theorem q_write (a0 a1 : Int32) (a2 : Int64) (ht : ∀ i, i < 4 → a0 = nI i → trR s i T) : (∃ s', pX12_write s a0 a1 a2 = some (false, s') ∧ rsame s s' ∧ pX11_write s0 T a0 a1 a2 = some (false, uI s0 11 (s'.1 0), T)) ∨ ∃ i s' T', i < 4 ∧ a0 = nI i ∧ pX12_write s a0 a1 a2 = some (true, s') ∧ trM i s s' ∧ s'.1 0 = 0 ∧ trR s' i T' ∧ pX11_write s0 T a0 a1 a2 = some (true, uI s0 11 0, T') := by
  unfold pX12_write pX11_write
  simp only [thn_eq]
  rcases why_place (s := uI s 1 0) (s0 := s0) (T := T) a0 a1 ht with ⟨i, so, m, k, h1, h2, h3, h4, rfl, rfl, b1, b2, b3, b4, b5, e1, e2⟩ | ⟨w, h, e1, e2⟩
  · obtain ⟨x, hx⟩ := cut_some (nI so) a2
    have b1' : (uI (uI s 1 (0 : Int32)) 0 (0 : Int32)).2.2.1 0 i = nI so := b1
    right
    refine ⟨i, uB (uI (uI s 1 0) 0 0) 2 (vp_updL (s.2.2.2 2) (60 * i + k) x), uB T 0 (vp_updL (T.2.2.2 0) k x), h1, rfl, ?_, ⟨⟨⟨rfl, rfl, rfl, rfl, rfl⟩, ⟨rfl, rfl⟩, ⟨rfl, rfl, rfl⟩, rfl⟩, fun _ _ => ⟨rfl, rfl⟩, fun x hx => ?_⟩, rfl, ?_, ?_⟩
    · rw [e1, ob_s, if_pos (show (uI (uI s 1 (0 : Int32)) 0 (0 : Int32)).1 0 ≤ 0 from (by decide : (0 : Int32) ≤ 0)), tr_in h1, nI_clamp (by omega), b1', hx, ob_s, show (60 : Int32) = nI 60 from rfl, pk_mul, nI_add, g_inT (by omega) (by omega), nI_clamp (by omega)]; rfl
    · rw [uB_at, updL_ne _ _ (by omega)]
    · refine Or.inr ⟨so, m, h2, h3, b1, b2, b3, b4, fun j hj => ?_⟩
      rw [uB_at, uB_at]
      by_cases e : j = k
      · rw [e, updL_at, updL_at]
      · rw [updL_ne _ _ e, updL_ne _ _ (by omega)]; exact b5 j hj
    · rw [e2, ob_s, if_pos rfl, tr_in h1]
      unfold pX9_set
      rw [b4, if_neg (show ¬ nI k < 0 from nI_pos (by omega)), if_neg (nI_ge h4 (by omega)), cut_eq h2 b3, hx, ob_s, g_inT (by omega) (by omega), nI_clamp (by omega)]; rfl
  · left
    rw [e1, e2, ob_s, ob_s, if_neg (show ¬ (uI (uI s 1 (0 : Int32)) 0 w).1 0 ≤ 0 from (w_le4 h).1), if_neg (w_le4 h).2]
    exact ⟨_, rfl, rq_2 _ _ _, rfl⟩
end Q
