/-! THE VOYAGE: a segment, and the whole run -/
section V
variable {s q r lg nw : RS} {B : Nat → Nat} {v : VS} {c : Nat → Int32}
theorem sg_one (rc : RS → Int32 → Option RS) (hB : blk c 0 B) (hw : wfB B) (hR : bkR B r) {R a k : Nat} (hl : lg.1 1 = nI R) (h60 : R ≤ 60) (ha : a < R) (hk : k < 30) (h : smR B lg c a k) : SGM B r lg nw c a (a + 1) (fun s => pX12_doOne_f rc s (nI k)) := by
  intro v s q z ev hv hs hq h44 hz
  have hv300 := hv.2.1
  have n26 : ¬ lg.2.2.1 2 a = (26 : Int32) := by
    rcases h with ⟨kd, x, i, hkd, hx, hi, l2, _⟩ | ⟨x, y, d, tw, hx, hy, hdd, htw, l2, _⟩ | ⟨n, n1, n99, l2, _⟩ | ⟨n, n16, l2, _⟩ | ⟨l2, c0⟩
    · rw [l2]
      rcases hkd with rfl | rfl | rfl <;> decide
    · rw [l2]; decide
    · rw [l2]; decide
    · rw [l2]; decide
    · rw [l2]; decide
  by_cases hd : v.2.1.1 = 300
  · obtain ⟨d1, d2⟩ := d300 (r := r) (lg := lg) rc hs hq hd (nI k) (nI a)
    refine ⟨v, _, d1, hs, rU_44 _ _, hv, Nat.le_refl _, Or.inr ⟨rfl, q, ?_, hq⟩⟩
    rw [x_row hl h60 ha (by omega) n26 d2, LL_m (by omega)]
  · obtain ⟨v', s', y, q', f1, f2, f3, f4, f5, f6, f7, f8, f9, _⟩ := sm_ok rc hB hw ev hR hv hs hq (show v.2.1.1 < 300 by omega) (a := a) (k := k) (by omega) hk h
    have st := x_row (nw := nw) hl h60 ha (show z < 100000 by omega) n26 f6
    refine ⟨v', s', f1, f2, f3, f4, by omega, ?_⟩
    rcases f9 with ⟨y1, y2⟩ | ⟨y1, y2⟩
    · rw [y1] at st
      exact Or.inl ⟨y2.trans h44, z + 1, q', st, by omega, f7, fun j _ => by rw [f8]⟩
    · rw [y1, LL_m (by omega)] at st
      exact Or.inr ⟨y2, q', st, f7⟩
theorem sg_cons (rc : RS → Int32 → Option RS) {a a1 b k k1 t N : Nat} (h1 : a ≤ a1) (h2 : a1 ≤ b) (hk : k < t) (ht : t ≤ 30) (p6 : c (137 + 7 * k + 6) = nI k1) (hN : 1 ≤ N) (one : SGM B r lg nw c a a1 (fun s => rc s (nI k))) (rest : SGM B r lg nw c a1 b (fun s => a_loop (fun (y : Int32 × RS) => X12_doAll_b2 rc (nI t) y.1 y.2) N (nI k1, s))) : SGM B r lg nw c a b (fun s => a_loop (fun (y : Int32 × RS) => X12_doAll_b2 rc (nI t) y.1 y.2) (N + 1) (nI k, s)) := by
  intro v s q z ev hv hs hq h44 hz
  obtain ⟨v1, s1, f1, f2, f3, f4, f5, f6⟩ := one v s q z ev hv hs hq h44 hz
  have f1' : rc s (nI k) = some s1 := f1
  have e1 := rU_e f3 ev
  have hb : (fun (y : Int32 × RS) => X12_doAll_b2 rc (nI t) y.1 y.2) (nI k, s) = some (.inl (nI k1, s1)) := by
    dsimp only [X12_doAll_b2]
    rw [if_neg (nI_ge hk (by omega)), if_pos (show s.1 44 = (0 : Int32) from h44), f1', ob_s, w7, ad6, g_inT (by omega) (by omega), nI_clamp (by omega), e1 (137 + 7 * k + 6) (by omega), p6, thn_eq]
  rcases f6 with ⟨g1, z1, q1, g2, g3, g4, g5⟩ | ⟨g1, q1, g2, g3⟩
  · obtain ⟨v', s', t1, t2, t3, t4, t5, t6⟩ := rest v1 s1 q1 z1 e1 f4 f2 g4 g1 (by omega)
    refine ⟨v', s', ?_, t2, rU_tr f3 t3, t4, by omega, ?_⟩
    · exact (lp_s hb).trans t1
    · rcases t6 with ⟨y1, z', q', y2, y3, y4, y5⟩ | ⟨y1, q', y2, y3⟩
      · exact Or.inl ⟨y1, z', q', g2.trans y2, by omega, y4, fun j hj => by rw [y5 j (by omega), g5 j (by omega)]⟩
      · exact Or.inr ⟨y1, q', g2.trans y2, y3⟩
  · refine ⟨v1, s1, ?_, f2, f3, f4, f5, Or.inr ⟨g1, q1, g2, g3⟩⟩
    obtain ⟨M, rfl⟩ := Nat.exists_eq_succ_of_ne_zero (show N ≠ 0 by omega)
    refine (lp_s hb).trans (lp_e ?_)
    dsimp only [X12_doAll_b2]
    rw [g1, if_neg (show ¬ nI 1 = (0 : Int32) by decide)]
    by_cases cc : nI t ≤ nI k1
    · rw [if_pos cc]
    · rw [if_neg cc]
theorem sg_nil (rc : RS → Int32 → Option RS) {a k N : Nat} (hk : k ≤ 30) : SGM B r lg nw c a a (fun s => a_loop (fun (y : Int32 × RS) => X12_doAll_b2 rc (nI k) y.1 y.2) (N + 1) (nI k, s)) := by
  intro v s q z ev hv hs hq h44 hz
  refine ⟨v, s, lp_e ?_, hs, rU_rf s, hv, Nat.le_refl _, Or.inl ⟨h44, z, q, rfl, Nat.le_refl _, hq, fun _ _ => rfl⟩⟩
  dsimp only [X12_doAll_b2]
  rw [if_pos (nI_le (Nat.le_refl _) (by omega))]
theorem da_eq (rc : RS → Int32 → Option RS) (s : RS) (a b : Int32) : pX12_doAll rc s a b = a_loop (fun (y : Int32 × RS) => X12_doAll_b2 rc b y.1 y.2) FU (a, s) := by
  unfold pX12_doAll
  cases a_loop (fun (y : Int32 × RS) => X12_doAll_b2 rc b y.1 y.2) FU (a, s) <;> rfl
theorem sg_ok (hB : blk c 0 B) (hw : wfB B) (hR : bkR B r) {R : Nat} (hl : lg.1 1 = nI R) (h60 : R ≤ 60) : ∀ (n d a b k t N : Nat), sg B lg c n d a b k t → b ≤ R → t ≤ 30 → t - k < N → SGM B r lg nw c a b (fun s => a_loop (fun (y : Int32 × RS) => X12_doAll_b2 (pX12_doOne (d + 1)) (nI t) y.1 y.2) N (nI k, s))
  | n, d, a, b, k, t, 0, _, _, _, h => absurd h (Nat.not_lt_zero _)
  | 0, d, a, b, k, t, N + 1, h, hb, ht, hN => by
    obtain ⟨rfl, rfl⟩ := h
    exact sg_nil _ ht
  | n + 1, d, a, b, k, t, N + 1, h, hb, ht, hN => by
    rcases h with ⟨rfl, rfl⟩ | ⟨h1, h2, h3⟩ | ⟨d', e, m, rfl, h1, p1, p2, p3, p4, h2, h3⟩
    · exact sg_nil _ ht
    · have l := sg_le n d _ _ _ _ h3
      refine sg_cons _ (by omega) l.1 (by omega) ht h2 (by omega) ?_ (sg_ok hB hw hR hl h60 n d (a + 1) b (k + 1) t N h3 hb ht (by omega))
      exact sg_one (pX12_doOne d) hB hw hR hl h60 (by omega) (by omega) h1
    · have l2 := sg_le n d' _ _ _ _ h2
      have l3 := sg_le n (d' + 1) _ _ _ _ h3
      have ih := sg_ok hB hw hR hl h60 n d' (a + 1) e (k + 1) m FU h2 (by omega) (by omega) (by show _ < 100000; omega)
      have ih' : SGM B r lg nw c (a + 1) e (fun s => pX12_doAll (pX12_doOne (d' + 1)) s (nI (k + 1)) (nI m)) := by
        intro v s q z g1 g2 g3 g4 g5 g6
        obtain ⟨v', s', f1, f2⟩ := ih v s q z g1 g2 g3 g4 g5 g6
        exact ⟨v', s', (da_eq _ _ _ _).trans f1, f2⟩
      refine sg_cons _ (a1 := e + 1) (by omega) l3.1 (by omega) ht p4 (by omega) ?_ (sg_ok hB hw hR hl h60 n (d' + 1) (e + 1) b m t N h3 hb ht (by omega))
      rcases h1 with h1 | h1
      · exact op_when (pX12_doOne (d' + 1)) hB hw hR hl h60 (by omega) l2.1 (by omega) h1 p1 p2 p3 p4 ih'
      · exact op_loop (pX12_doOne (d' + 1)) hl h60 (by omega) l2.1 (by omega) h1 p2 p3 p4 ih'
/-- the islands' sets, laid into the voyage -/
def cpH (H : Nat → Nat) (q : RS) : Nat → RS
  | 0 => q
  | k + 1 => uA (cpH H q k) 0 (upd ((cpH H q k).2.2.1 0) k (nI (H k)))
theorem cpH_1 (H : Nat → Nat) (q : RS) : ∀ k, ∀ j, j < k → (cpH H q k).2.2.1 0 j = nI (H j)
  | 0, j, h => absurd h (Nat.not_lt_zero _)
  | k + 1, j, h => by
    show (uA (cpH H q k) 0 (upd ((cpH H q k).2.2.1 0) k (nI (H k)))).2.2.1 0 j = _
    rw [uA_at]
    by_cases e : j = k
    · rw [e, upd_at]
    · rw [upd_ne _ _ e]; exact cpH_1 H q k j (by omega)
/-- the LOG: R rows, T STEPS -/
def lgR (B : Nat → Nat) (lg : RS) (c : Nat → Int32) (R T : Nat) : Prop := lg.1 1 = nI R ∧ R ≤ 60 ∧ T ≤ 30 ∧ c 136 = nI T ∧ ∃ n d, d ≤ 19 ∧ sg B lg c n d 0 R 0 T
theorem sg_up {B : Nat → Nat} {lg : RS} {c : Nat → Int32} : ∀ (n d d2 a b k t : Nat), d ≤ d2 → sg B lg c n d a b k t → sg B lg c n d2 a b k t
  | 0, d, d2, a, b, k, t, _, h => h
  | n + 1, d, d2, a, b, k, t, hd, h => by
    rcases h with h | ⟨h1, h2, h3⟩ | ⟨d', e, m, rfl, h1, p1, p2, p3, p4, h2, h3⟩
    · exact Or.inl h
    · exact Or.inr (Or.inl ⟨h1, h2, sg_up n d d2 _ _ _ _ hd h3⟩)
    · obtain ⟨d3, rfl⟩ := Nat.exists_eq_succ_of_ne_zero (show d2 ≠ 0 by omega)
      exact Or.inr (Or.inr ⟨d3, e, m, rfl, h1, p1, p2, p3, p4, sg_up n d' d3 _ _ _ _ (by omega) h2, sg_up n (d' + 1) (d3 + 1) _ _ _ _ hd h3⟩)
theorem run_ok {H : Nat → Nat} {R T : Nat} (hB : blk (s.2.2.1 4) 0 B) (hw : wfB B) (hR : bkR B r) (hH : hsR (s.2.2.1 4) H) (hN : hsC nw H) (hW : hsW B H) (hL : lgR B lg (s.2.2.1 4) R T) {x : Nat} (hx : x < 65536) : ∃ v' s' q', pX12_run s (nI x) = some s' ∧ pX10_run q r lg nw (nI x) = some q' ∧ vrR v' s' ∧ vrX v' q' ∧ rU s s' ∧ vW B v' := by
  obtain ⟨hl, h60, hT, h136, n, d, hd, hsg⟩ := hL
  have hsg := sg_up n d 19 _ _ _ _ hd hsg
  unfold pX12_run pX10_run X10_run_j43
  simp only [thn_eq]
  -- the reference's start
  have r0 : vrR ((H, (0, 0, 0, 0, 0), (0, x), []) : VS) (uI (uI (uI (uI (uI (uI (uI (uI (uI s 37 (nI x)) 38 0) 39 0) 40 0) 41 0) 42 0) 36 0) 35 0) 44 0) := ⟨hH, ⟨rfl, rfl, rfl, rfl, rfl⟩, ⟨rfl, rfl⟩, rfl, fun k y h => by cases h⟩
  have u0 : rU s (uI (uI (uI (uI (uI (uI (uI (uI (uI s 37 (nI x)) 38 0) 39 0) 40 0) 41 0) 42 0) 36 0) 35 0) 44 0) := rU_tr (rU_V (rV_tr (rV_tr (rV_tr (rV_tr (rV_tr (rV_tr (rV_tr (rV_uI _ _ (by omega)) (rV_uI _ _ (by omega))) (rV_uI _ _ (by omega))) (rV_uI _ _ (by omega))) (rV_uI _ _ (by omega))) (rV_uI _ _ (by omega))) (rV_uI _ _ (by omega))) (rV_uI _ _ (by omega)))) (rU_44 _ _)
  have e0 : eV (s.2.2.1 4) (uI (uI (uI (uI (uI (uI (uI (uI (uI s 37 (nI x)) 38 0) 39 0) 40 0) 41 0) 42 0) 36 0) 35 0) 44 0) := fun _ _ => rfl
  have k0 : (uI (uI (uI (uI (uI (uI (uI (uI (uI s 37 (nI x)) 38 0) 39 0) 40 0) 41 0) 42 0) 36 0) 35 0) 44 0).1 44 = nI 0 := rfl
  generalize uI (uI (uI (uI (uI (uI (uI (uI (uI s 37 (nI x)) 38 0) 39 0) 40 0) 41 0) 42 0) 36 0) 35 0) 44 0 = s9 at *
  -- the class's start
  have lp : a_loop (fun (y : Int32 × RS) => X10_run_b13 (nI x) y.1 y.2 r lg nw) FU ((0 : Int32), q) = some (cpH H q 4) := by
    refine lp_f (body := fun (y : Int32 × RS) => X10_run_b13 (nI x) y.1 y.2 r lg nw) (fun k => (nI k, cpH H q k)) 4 (by decide) (fun k hk => ?_) ?_
    · dsimp only [X10_run_b13]
      rw [show (4 : Int32) = nI 4 from rfl, if_neg (nI_ge hk (by omega)), if_neg (nI_ge hk (by omega)), g_inT hk (by omega), g_inT hk (by omega), nI_clamp (by omega), hN k hk, thn_eq, thn_eq, nI_1]; rfl
    · dsimp only [X10_run_b13]
      rw [if_pos (by decide)]
  rw [lp, ob_s]
  have x0 : vrX ((H, (0, 0, 0, 0, 0), (0, x), []) : VS) (uI (uI (uI (uI (uI (uI (uI (uI (cpH H q 4) 1 0) 2 0) 3 0) 4 0) 5 0) 6 0) 10 0) 9 (nI x)) := ⟨cpH_1 H q 4, ⟨rfl, rfl, rfl, rfl, rfl⟩, ⟨rfl, rfl⟩, rfl, fun k y h => by cases h⟩
  generalize uI (uI (uI (uI (uI (uI (uI (uI (cpH H q 4) 1 0) 2 0) 3 0) 4 0) 5 0) 6 0) 10 0) 9 (nI x) = q9 at *
  have w0 : vW B ((H, (0, 0, 0, 0, 0), (0, x), []) : VS) := ⟨hW, Nat.zero_le _, Nat.le_refl _, Nat.le_refl _, hx, Nat.zero_le _, fun y h => by cases h⟩
  obtain ⟨v', s', f1, f2, f3, f4, f5, f6⟩ := sg_ok (nw := nw) hB hw hR hl h60 n 19 0 R 0 T FU hsg (Nat.le_refl _) hT (by show _ < 100000; omega) _ s9 q9 0 e0 w0 r0 x0 k0 (by omega)
  have f1' : pX12_doAll (pX12_doOne 20) s9 (0 : Int32) (nI T) = some s' := (da_eq _ _ _ _).trans f1
  rw [show (136 : Int32) = nI 136 from rfl, g_inT (by omega) (by omega), nI_clamp (by omega), e0 136 (by omega), h136, f1', ob_s]
  have f4' := f4.2.1
  have cl : ∃ q', LL r lg nw 0 (nI 0) q9 = some q' ∧ vrX v' q' := by
    rcases f6 with ⟨g1, z1, q1, g2, g3, g4, g5⟩ | ⟨g1, q1, g2, g3⟩
    · refine ⟨q1, g2.trans (LL_e (by omega) ?_), g4⟩
      unfold X10_run_b90 pX10_isRow
      rw [show (1000000 : Int32) = nI 1000000 from rfl, if_neg (nI_ge (by omega) (by omega)), if_neg (nI_pos (by omega)), hl, if_pos (nI_le (Nat.le_refl _) (by omega)), ob_s]; rfl
    · exact ⟨q1, g2, g3⟩
  obtain ⟨q', c1, c2⟩ := cl
  have c1' : a_loop (fun (y : Int32 × Int32 × RS) => X10_run_b90 y.1 y.2.1 y.2.2 r lg nw) FU ((0 : Int32), (0 : Int32), q9) = some q' := c1
  rw [c1', ob_s]
  exact ⟨v', s', q', rfl, rfl, f2, c2, rU_tr u0 f3, f4⟩
end V
