/-! THE VOYAGE: waiting, the class -/
def bsX (v : VS) (q : RS) : Prop := (∀ i, i < 4 → q.2.2.1 0 i = nI (v.1 i)) ∧ (q.1 1 = nI v.2.1.1 ∧ q.1 2 = nI v.2.1.2.1 ∧ q.1 3 = nI v.2.1.2.2.1 ∧ q.1 4 = nI v.2.1.2.2.2.1 ∧ q.1 5 = nI v.2.1.2.2.2.2) ∧ (q.1 10 = nI v.2.2.1.1 ∧ q.1 9 = nI v.2.2.1.2)
def rwX (o : Nat) (l : List VC) (q : RS) : Prop := ∀ k x, l[k]? = some x → q.2.2.1 12 (o + k) = nI x.1 ∧ q.2.2.1 11 (o + k) = nI x.2.1 ∧ q.2.2.1 13 (o + k) = nI x.2.2.1 ∧ q.2.2.1 14 (o + k) = nI x.2.2.2
section V
variable {s q r lg : RS} {B : Nat → Nat} {v : VS}
theorem x_landB (hR : bkR B r) (hw : wfB B) (hq : bsX v q) {b : Nat} (hb : b < B 1) (h : Nat) : ∃ q', pX10_land q r lg (nI h) (nI b) = some q' ∧ bsX (come v b h) q' ∧ qV q q' ∧ q'.1 6 = q.1 6 ∧ q'.2.2.1 11 = q.2.2.1 11 ∧ q'.2.2.1 12 = q.2.2.1 12 ∧ q'.2.2.1 13 = q.2.2.1 13 ∧ q'.2.2.1 14 = q.2.2.1 14 := by
  have h4 := hw.2.1
  unfold pX10_land
  rw [x_isIslandN hR hw (by omega), decide_eq_true hb, ob_s, if_pos rfl, g_inT (by omega) (by omega), g_inT (by omega) (by omega), nI_clamp (by omega), hq.1 b (by omega), orI, thn_eq]
  unfold X10_land_j21
  rw [thn_eq]
  refine ⟨_, rfl, ⟨fun j hj => ?_, ⟨hq.2.1.1, hq.2.1.2.1, hq.2.1.2.2.1, ?_, hq.2.1.2.2.2.2⟩, hq.2.2⟩, rfl, rfl, rfl, rfl, rfl, rfl⟩
  · show upd (q.2.2.1 0) b (nI (v.1 b ||| h)) j = nI (if j = b then v.1 b ||| h else v.1 j)
    by_cases e : j = b
    · subst e; rw [upd_at, if_pos rfl]
    · rw [upd_ne _ _ e, if_neg e]; exact hq.1 j hj
  · show q.1 4 + (1 : Int32) = _
    rw [hq.2.1.2.2.2.1, nI_1]; rfl
theorem x_move {a b : Nat} (ha : a < 20) (hb : b < 20) : ∃ q', pX10_moveCargo q r lg (nI a) (nI b) = some q' ∧ q'.1 = q.1 ∧ q'.2.2.1 0 = q.2.2.1 0 ∧ qV q q' ∧ q'.2.2.1 11 = upd (q.2.2.1 11) b (q.2.2.1 11 a) ∧ q'.2.2.1 12 = upd (q.2.2.1 12) b (q.2.2.1 12 a) ∧ q'.2.2.1 13 = upd (q.2.2.1 13) b (q.2.2.1 13 a) ∧ q'.2.2.1 14 = upd (q.2.2.1 14) b (q.2.2.1 14 a) := by
  unfold pX10_moveCargo
  simp (disch := omega) only [g_inT, nI_clamp, thn_eq]
  exact ⟨_, rfl, rfl, rfl, rfl, rfl, rfl, rfl, rfl⟩
theorem x_dueL (hR : bkR B r) (hw : wfB B) (D : Nat) (hD : D < 100000) : ∀ (t g : List VC) (k : Nat) (v : VS) (q : RS) (N : Nat), g.length ≤ k → k + t.length ≤ 20 → q.1 6 = nI (k + t.length) → rwX 0 g q → rwX k t q → bsX v q → v.2.1.2.1 = D → (∀ x, x ∈ t → x.1 < B 1 ∧ x.2.2.1 < 100000) → t.length < N → ∃ q', a_loop (fun (y : Int32 × Int32 × RS) => X10_landDue_b4 y.1 y.2.1 y.2.2 r lg) N (nI g.length, nI k, q) = some (nI (g ++ lkp D t).length, q') ∧ rwX 0 (g ++ lkp D t) q' ∧ bsX (lds D t v) q' ∧ qV q q'
  | t, g, k, v, q, 0, _, _, _, _, _, _, _, _, h => absurd h (Nat.not_lt_zero _)
  | [], g, k, v, q, N + 1, h1, h2, h3, h4, h5, h6, h7, h8, hN => by
    rw [show lkp D [] = [] from rfl, List.append_nil]
    refine ⟨q, lp_e ?_, h4, h6, rfl⟩
    dsimp only [X10_landDue_b4]
    rw [h3, if_pos (nI_le (by show k + 0 ≤ k; omega) (by have : k + 0 ≤ 20 := h2; omega))]
  | x :: t, g, k, v, q, N + 1, h1, h2, h3, h4, h5, h6, h7, h8, hN => by
    have l1 : (x :: t).length = t.length + 1 := List.length_cons
    have hx := h5 0 x rfl
    rw [Nat.add_zero] at hx
    have cx := h8 x List.mem_cons_self
    have sd : q.1 2 = nI D := by rw [← h7]; exact h6.2.1.2.1
    have b0 : (fun (y : Int32 × Int32 × RS) => X10_landDue_b4 y.1 y.2.1 y.2.2 r lg) (nI g.length, nI k, q) = if D < x.2.2.1 then (pX10_moveCargo q r lg (nI k) (nI g.length)).bind fun x1 => some (.inl (nI (g.length + 1), nI (k + 1), x1)) else (pX10_land q r lg (nI x.2.1) (nI x.1)).bind fun x4 => some (.inl (nI g.length, nI (k + 1), x4)) := by
      dsimp only [X10_landDue_b4, X10_landDue_j59]
      rw [h3, if_neg (nI_ge (by omega) (by omega)), show (20 : Int32) = nI 20 from rfl, if_neg (nI_ge (by omega) (by omega)), g_inT (by omega) (by omega), g_inT (by omega) (by omega), g_inT (by omega) (by omega), nI_clamp (by omega), hx.1, hx.2.1, hx.2.2.1, sd, ifLt (by omega) (by omega)]
      simp only [thn_eq, nI_1]
    have h5' : rwX (k + 1) t q := fun j y hy => by
      have := h5 (j + 1) y hy
      rw [show k + 1 + j = k + (j + 1) by omega]; exact this
    by_cases c : D < x.2.2.1
    · obtain ⟨q1, m0, m1, m2, m3, m4, m5, m6, m7⟩ := x_move (q := q) (r := r) (lg := lg) (a := k) (b := g.length) (by omega) (by omega)
      rw [if_pos c, m0, ob_s] at b0
      rw [lp_s b0]
      have r0 : rwX 0 (g ++ [x]) q1 := fun j y hy => by
        rw [Nat.zero_add, m4, m5, m6, m7]
        rcases app_get hy with ⟨e, n⟩ | ⟨e, e2⟩
        · have := h4 j y e
          rw [Nat.zero_add] at this
          rw [upd_ne _ _ n, upd_ne _ _ n, upd_ne _ _ n, upd_ne _ _ n]; exact this
        · rw [e, e2, upd_at, upd_at, upd_at, upd_at]; exact hx
      have r1 : rwX (k + 1) t q1 := fun j y hy => by
        rw [m4, m5, m6, m7, upd_ne _ _ (by omega), upd_ne _ _ (by omega), upd_ne _ _ (by omega), upd_ne _ _ (by omega)]
        exact h5' j y hy
      have b1 : bsX v q1 := by unfold bsX; rw [m1, m2]; exact h6
      obtain ⟨q', f1, f2, f3, f4⟩ := x_dueL hR hw D hD t (g ++ [x]) (k + 1) v q1 N (by rw [len_app]; omega) (by omega) (by rw [m1, h3, l1, show k + (t.length + 1) = k + 1 + t.length by omega]) r0 r1 b1 h7 (fun y hy => h8 y (List.mem_cons_of_mem _ hy)) (by omega)
      rw [len_app] at f1
      have el : g ++ lkp D (x :: t) = (g ++ [x]) ++ lkp D t := by
        show g ++ (if x.2.2.1 ≤ D then lkp D t else x :: lkp D t) = _
        rw [if_neg (by omega), List.append_assoc]; rfl
      have ev : lds D (x :: t) v = lds D t v := by
        show lds D t (if x.2.2.1 ≤ D then come v x.1 x.2.1 else v) = _
        rw [if_neg (by omega)]
      rw [el, ev]
      exact ⟨q', f1, f2, f3, f4.trans m3⟩
    · obtain ⟨q1, m0, m1, m2, m3, m4, m5, m6, m7⟩ := x_landB (lg := lg) hR hw h6 cx.1 x.2.1
      rw [if_neg c, m0, ob_s] at b0
      rw [lp_s b0]
      have r0 : rwX 0 g q1 := fun j y hy => by rw [m4, m5, m6, m7]; exact h4 j y hy
      have r1 : rwX (k + 1) t q1 := fun j y hy => by rw [m4, m5, m6, m7]; exact h5' j y hy
      obtain ⟨q', f1, f2, f3, f4⟩ := x_dueL hR hw D hD t g (k + 1) (come v x.1 x.2.1) q1 N (by omega) (by omega) (by rw [m3, h3, l1, show k + (t.length + 1) = k + 1 + t.length by omega]) r0 r1 m1 h7 (fun y hy => h8 y (List.mem_cons_of_mem _ hy)) (by omega)
      have el : lkp D (x :: t) = lkp D t := by
        show (if x.2.2.1 ≤ D then lkp D t else x :: lkp D t) = _
        rw [if_pos (by omega)]
      have ev : lds D (x :: t) v = lds D t (come v x.1 x.2.1) := by
        show lds D t (if x.2.2.1 ≤ D then come v x.1 x.2.1 else v) = _
        rw [if_pos (by omega)]
      rw [el, ev]
      exact ⟨q', f1, f2, f3, f4.trans m2⟩
theorem x_landDue (hR : bkR B r) (hw : wfB B) (hv : vW B v) (hq : vrX v q) {n : Nat} (hn : n ≤ 99) : ∃ q', pX10_landDue (uI q 2 (nI (v.2.1.2.1 + n))) r lg = some q' ∧ vrX (vDay (v.2.1.2.1 + n) v) q' ∧ qV q q' := by
  have h2 := hv.2.1
  have h3 := hv.2.2.1
  have l20 := hv.2.2.2.2.2.1
  unfold pX10_landDue
  obtain ⟨q', f1, f2, f3, f4⟩ := x_dueL (lg := lg) hR hw (v.2.1.2.1 + n) (by omega) v.2.2.2 [] 0 (day1 (v.2.1.2.1 + n) v) (uI q 2 (nI (v.2.1.2.1 + n))) FU (Nat.le_refl _) (by omega) (by rw [Nat.zero_add]; exact hq.2.2.2.1) (fun k x h => by cases h) (fun k x h => by rw [Nat.zero_add]; exact hq.2.2.2.2 k x h) ⟨hq.1, ⟨hq.2.1.1, rfl, hq.2.1.2.2⟩, hq.2.2.1⟩ rfl (fun x hx => ⟨(hv.2.2.2.2.2.2 x hx).1, (hv.2.2.2.2.2.2 x hx).2.2.1⟩) (by show _ < 100000; omega)
  unfold X10_landDue_j65
  refine ⟨_, bd f1 rfl, ⟨f3.1, f3.2.1, f3.2.2, rfl, fun k x h => ?_⟩, f4⟩
  have := f2 k x h
  rw [Nat.zero_add] at this
  exact this
theorem ldS_ok {B : Nat → Nat} (D i : Nat) : ∀ (l : List VC), (∀ x, x ∈ l → cOk B x) → hOk B (ldS D i l)
  | [], _ => ⟨Nat.two_pow_pos _, lk_iff.mpr (fun k hk h => by rw [show ldS D i [] = 0 from rfl, Nat.zero_testBit] at h; cases h)⟩
  | x :: t, h => by
    have ih := ldS_ok D i t (fun y hy => h y (List.mem_cons_of_mem _ hy))
    show hOk B ((if x.2.2.1 ≤ D ∧ i = x.1 then x.2.1 else 0) ||| ldS D i t)
    by_cases c : x.2.2.1 ≤ D ∧ i = x.1
    · rw [if_pos c]; exact hOk_or (h x List.mem_cons_self).2.1 ih
    · rw [if_neg c, Nat.zero_or]; exact ih
theorem vDay_ok (hv : vW B v) {D : Nat} (hD : D ≤ 99 * v.2.1.1) : vW B (vDay D v) ∧ (vDay D v).2.1.1 = v.2.1.1 ∧ (vDay D v).2.1.2.1 = D := by
  refine ⟨?_, (vDay_d D v).2, (vDay_d D v).1⟩
  rw [vDay_eq]
  exact ⟨fun i hi => hOk_or (hv.1 i hi) (ldS_ok D i _ hv.2.2.2.2.2.2), hv.2.1, hD, hv.2.2.2.1, hv.2.2.2.2.1, Nat.le_trans (lkp_len D _) hv.2.2.2.2.2.1, fun x hx => hv.2.2.2.2.2.2 x (lkp_mem hx)⟩
end V
