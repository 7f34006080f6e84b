/-! TEXTS: a STEP begins, both ways -/
/-- the class's loop over a LOG, z rounds gone, and what comes behind it -/
def LPg (r : RS) (z : Nat) (g : Bool) (s0 q lg : RS) : Option (Bool × RS × RS × RS) := a_loop (fun (y : Bool × Int32 × RS × RS × RS) => X4_readLog_b12 y.1 y.2.1 y.2.2.1 y.2.2.2.1 r y.2.2.2.2) (100000 - z) (g, nI z, s0, q, lg)
def LJg (r : RS) (o : Option (Bool × RS × RS × RS)) : Option (RS × RS × RS) := o.bind fun t10 => X4_readLog_j115 t10.1 t10.2.1 t10.2.2.1 r t10.2.2.2
/-- of the reference only the token, the fault, the count of steps and the scratch from step k on have changed -/
def rsK (k : Nat) (s s' : RS) : Prop := (∀ j, (j < 12 ∨ 18 < j) → j ≠ 46 → s'.1 j = s.1 j) ∧ (∀ j, j ≠ 19 → s'.2.1 j = s.2.1 j) ∧ (∀ n, n ≠ 4 → s'.2.2.1 n = s.2.2.1 n) ∧ s'.2.2.2 = s.2.2.2 ∧ ∀ x, x < 1577 + 7 * k → s'.2.2.1 4 x = s.2.2.1 4 x
theorem rsK_tr {k k' : Nat} {a b c : RS} (h : rsK k a b) (g : rsK k' b c) (hk : k ≤ k') : rsK k a c := ⟨fun j hj h4 => (g.1 j hj h4).trans (h.1 j hj h4), fun j hj => (g.2.1 j hj).trans (h.2.1 j hj), fun n hn => (g.2.2.1 n hn).trans (h.2.2.1 n hn), g.2.2.2.1.trans h.2.2.2.1, fun x hx => (g.2.2.2.2 x (by omega)).trans (h.2.2.2.2 x hx)⟩
theorem rsK_rf (k : Nat) (s : RS) : rsK k s s := ⟨fun _ _ _ => rfl, fun _ _ => rfl, fun _ _ => rfl, rfl, fun _ _ => rfl⟩
theorem rsK_W {k w : Nat} {s s' : RS} (h : rsW w s s') (hw : w = 1440 + (137 + 7 * k)) : rsK k s s' := ⟨fun j hj _ => h.1 j hj, h.2.1, h.2.2.1, h.2.2.2.1, fun x hx => h.2.2.2.2 x (by omega)⟩
theorem rsK_nx {k : Nat} {s s' : RS} (h : nxS s s') : rsK k s s' := ⟨fun j hj _ => h.1 j (by omega), h.2.1, fun n _ => by rw [h.2.2], by rw [h.2.2], fun x _ => by rw [h.2.2]⟩
theorem rsK_46 {k : Nat} (s : RS) (v : Int32) : rsK k s (uI s 46 v) := ⟨fun j _ hj => if_neg hj, fun _ _ => rfl, fun _ _ => rfl, rfl, fun _ _ => rfl⟩
theorem rsK_4 {k x : Nat} (s : RS) (v : Int32) (h : 1577 + 7 * k ≤ x) : rsK k s (uA s 4 (upd (s.2.2.1 4) x v)) := ⟨fun _ _ _ => rfl, fun _ _ => rfl, fun n hn => uA_ne _ _ hn, rfl, fun y hy => by rw [uA_at, upd_ne _ _ (by omega)]⟩
theorem rsK_flt {k f st : Nat} (s : RS) : rsK k s (fltR f st s) := ⟨fun j hj _ => (if_neg (show ¬ j = 13 by omega)).trans (if_neg (show ¬ j = 12 by omega)), fun _ _ => rfl, fun _ _ => rfl, rfl, fun _ _ => rfl⟩
theorem st_c : ∀ K, K ≤ 33 → (stW K = m1I ∧ pX4_isStep (nI K) = some false) ∨ ∃ kd, wkP K kd ∧ stW K = nI kd ∧ pX4_isStep (nI K) = some true ∧ (K = 19 ↔ kd = 6) ∧ (K = 25 ↔ kd = 7) := by
  refine k34 (fun K h => ?_)
  rcases h with rfl | rfl | rfl | rfl | rfl | rfl | rfl | rfl | rfl | rfl | rfl | rfl | rfl | rfl | rfl | rfl | rfl | rfl | rfl | rfl | rfl | rfl | rfl | rfl | rfl | rfl | rfl | rfl | rfl | rfl | rfl | rfl | rfl | rfl
  all_goals first
    | exact Or.inl ⟨rfl, rfl⟩
    | exact Or.inr ⟨0, by unfold wkP; decide, rfl, rfl, by decide, by decide⟩
    | exact Or.inr ⟨1, by unfold wkP; decide, rfl, rfl, by decide, by decide⟩
    | exact Or.inr ⟨2, by unfold wkP; decide, rfl, rfl, by decide, by decide⟩
    | exact Or.inr ⟨3, by unfold wkP; decide, rfl, rfl, by decide, by decide⟩
    | exact Or.inr ⟨4, by unfold wkP; decide, rfl, rfl, by decide, by decide⟩
    | exact Or.inr ⟨5, by unfold wkP; decide, rfl, rfl, by decide, by decide⟩
    | exact Or.inr ⟨6, by unfold wkP; decide, rfl, rfl, by decide, by decide⟩
    | exact Or.inr ⟨7, by unfold wkP; decide, rfl, rfl, by decide, by decide⟩
    | exact Or.inr ⟨8, by unfold wkP; decide, rfl, rfl, by decide, by decide⟩
theorem wk_le {wd kd : Nat} (h : wkP wd kd) : kd ≤ 8 ∧ 11 ≤ wd ∧ wd ≤ 27 ∧ wd ≠ 26 := by
  unfold wkP at h
  omega
section V
variable {s q q0 r lg s0 : RS} {b : Nat → Nat} {e T j f st w a k R d z wd kd : Nat} {tb : Nat → Int64} {nm nmI : Nat → Nat} {B : Nat → Nat} {rc : RS → Int32 → Option RS}
theorem LP_s {g' : Bool} {s0' q' lg' : RS} (hz : z < 1000) (h : X4_readLog_b12 true (nI z) s0 q r lg = some (.inl (g', nI (z + 1), s0', q', lg'))) : LPg r z true s0 q lg = LPg r (z + 1) g' s0' q' lg' := by
  unfold LPg
  rw [show 100000 - z = (100000 - (z + 1)) + 1 by omega]
  exact lp_s (body := fun (y : Bool × Int32 × RS × RS × RS) => X4_readLog_b12 y.1 y.2.1 y.2.2.1 y.2.2.2.1 r y.2.2.2.2) h
theorem LP_f (hz : z < 1000) : LPg r z false s0 q lg = some (false, s0, q, lg) := by
  unfold LPg
  rw [show 100000 - z = (100000 - (z + 1)) + 1 by omega]
  refine lp_e (body := fun (y : Bool × Int32 × RS × RS × RS) => X4_readLog_b12 y.1 y.2.1 y.2.2.1 y.2.2.2.1 r y.2.2.2.2) ?_
  dsimp only [X4_readLog_b12]
  by_cases c : (300 : Int32) < nI z
  · rw [if_pos c]
  · rw [if_neg c, if_neg Bool.false_ne_true]
theorem LJ_f (hz : z < 1000) : LJg r (LPg r z false s0 q lg) = some (s0, q, lg) := by
  unfold LJg
  rw [LP_f hz, ob_s]
  unfold X4_readLog_j115
  rw [if_neg Bool.false_ne_true]
/-- the reference has a fault: a STEP does nothing more -/
theorem j31_bad (h : badR f s) (v1 v2 : Int32) (v3 : Bool) : X12_readStep_j31 rc v1 v2 v3 s = some s := by
  unfold X12_readStep_j31 X12_readStep_j57 X12_readStep_j83
  rw [if_neg (bad_eq h), if_neg (bad_eq h), if_neg (bad_le h)]
theorem is_end (s : RS) : ∃ t, pX12_isEnd s = some t := by
  unfold pX12_isEnd
  rw [sp_26, ob_s]
  unfold pX12_isWord
  by_cases c1 : s.1 14 = (1 : Int32)
  · rw [if_pos c1]
    by_cases c2 : s.2.1 19 = lN (kw32 26)
    · rw [if_pos c2]; exact ⟨_, rfl⟩
    · rw [if_neg c2]; exact ⟨_, rfl⟩
  · rw [if_neg c1]; exact ⟨_, rfl⟩
theorem is_close (s : RS) : ∃ t, pX12_isClose s = some t := by
  unfold pX12_isClose
  by_cases c1 : s.1 14 = (3 : Int32)
  · rw [if_pos c1]; exact ⟨_, rfl⟩
  · rw [if_neg c1]; exact ⟨_, rfl⟩
theorem r_isClose (h : prR tb b e T j s q) : pX12_isClose s = some (decide (kJ tb b e j = 31)) := by
  have tk := (r_tok h).2.1
  unfold pX12_isClose
  by_cases c : kJ tb b e j = 31
  · rw [if_pos (show s.1 14 = (3 : Int32) from tk.mpr c), decide_eq_true c]
  · rw [if_neg (show ¬ s.1 14 = (3 : Int32) from fun x => c (tk.mp x)), decide_eq_false c]
theorem j168_bad (h : badR f s) (hw : w + 7 ≤ 1800) (bl : Bool) : X12_readStep_j168 rc bl (nI w) s = some (uA s 4 (upd (s.2.2.1 4) (w + 6) (s.1 46))) := by
  unfold X12_readStep_j168 X12_readStep_j188
  rw [ad6, g_inT (by omega) (by omega), nI_clamp (by omega), thn_eq]
  cases bl with
  | false => rw [if_neg Bool.false_ne_true]
  | true =>
    obtain ⟨t1, e1⟩ := is_end s
    obtain ⟨t2, e2⟩ := is_close s
    rw [if_pos rfl, e1, ob_s, must_bad h, ob_s, e2, ob_s, must_bad h, ob_s, g_inT (by omega) (by omega), thn_eq]
theorem tail_bad (h : badR f s) (hw : w + 7 ≤ 1800) (bl : Bool) (v1 : Int32) : ((a_loop (fun (q : RS) => X12_readStep_b140 rc v1 bl (nI w) q) FU s).bind fun (t11 : RS) => X12_readStep_j168 rc bl (nI w) t11) = some (uA s 4 (upd (s.2.2.1 4) (w + 6) (s.1 46))) := by
  have h0 : (fun (q : RS) => X12_readStep_b140 rc v1 bl (nI w) q) s = some (.inr s) := by
    dsimp only [X12_readStep_b140]
    rw [if_neg (bad_eq h)]
    cases bl with
    | false => rw [if_neg Bool.false_ne_true]
    | true => rw [if_pos rfl]
  rw [show FU = 99999 + 1 from rfl, lp_e h0, ob_s, j168_bad h hw]
theorem prR_46 (h : prR tb b e T j s q) (v : Int32) : prR tb b e T j (uI s 46 v) q := ⟨h.1, ⟨h.2.1.1, h.2.1.2.1, fun i hi => h.2.1.2.2 i hi⟩, h.2.2.1, h.2.2.2⟩
/-- the reference goes into a STEP -/
theorem r_into (h : prR tb b e T j s q) (h12 : s.1 12 = nI 0) (h46 : s.1 46 = nI k) (hk : k < 30) (hp : wkP wd kd) (hJ : kJ tb b e j = wd) (hs : stW wd = nI kd) (hd : (kd = 6 ∨ kd = 7) → d < 3) (hd3 : d ≤ 3) (hwk : w = 1440 + (137 + 7 * k)) : ∃ t, pX12_readStep_f rc s (nI d) = ((pX12_readRest t (nI w)).bind fun x6 => (pX12_isClose x6).bind fun x7 => (pX12_must x6 x7).bind fun x8 => (a_loop (fun (q : RS) => X12_readStep_b140 rc (nI d) (decide (kd = 6 ∨ kd = 7)) (nI w) q) FU x8).bind fun (t11 : RS) => X12_readStep_j168 rc (decide (kd = 6 ∨ kd = 7)) (nI w) t11) ∧ prR tb b e T (j + 1) t (uI q 10 (nI (j + 1))) ∧ t.1 12 = nI 0 ∧ t.1 46 = nI (k + 1) ∧ rsK k s t ∧ t.2.2.1 4 w = nI kd ∧ pX8_advance q = some (uI q 10 (nI (j + 1))) := by
  have hw8 := wk_le hp
  have hj : kJ tb b e j ≠ 33 := by omega
  obtain ⟨t1, f1, f2, f3, f4⟩ := p_next (prR_46 h (nI (k + 1))) hj
  have f4' : rsK k s t1 := rsK_tr (rsK_46 s (nI (k + 1))) (rsK_nx f4) (Nat.le_refl _)
  have n46 : t1.1 46 = nI (k + 1) := (f4.1 46 (by omega)).trans rfl
  have n12 : t1.1 12 = nI 0 := (f4.1 12 (by omega)).trans h12
  refine ⟨uA t1 4 (upd (t1.2.2.1 4) w (nI kd)), ?_, prR_4 f3 _, n12, n46, rsK_tr f4' (rsK_4 _ _ (by omega)) (Nat.le_refl _), by rw [uA_at, upd_at], f2⟩
  have pre : pX12_readStep_f rc s (nI d) = X12_readStep_j31 rc (nI d) (nI kd) (decide (kd = 6 ∨ kd = 7)) s := by
    unfold pX12_readStep_f X12_readStep_j17 X12_readStep_j22
    rw [r_stepWord h.1 h.2.2.1, ob_s, show kR tb b e (tsq b e j) = wd from hJ, hs, show (6 : Int32) = nI 6 from rfl, show (7 : Int32) = nI 7 from rfl, ifE (by omega) (by omega), ifE (by omega) (by omega), if_pos (show (0 : Int32) ≤ nI kd from nI_le (a := 0) (by omega) (by omega)), if_pos (show (0 : Int32) ≤ nI kd from nI_le (a := 0) (by omega) (by omega))]
    by_cases c6 : kd = 6
    · rw [if_pos c6, decide_eq_true (Or.inl c6)]
    · rw [if_neg c6]
      by_cases c7 : kd = 7
      · rw [if_pos c7, decide_eq_true (Or.inr c7)]
      · rw [if_neg c7, decide_eq_false (by omega)]
  rw [pre]
  unfold X12_readStep_j31 X12_readStep_j57
  rw [h12, if_pos (show nI 0 = (0 : Int32) from rfl), h46, if_neg (show ¬ nI k = (30 : Int32) from fun x => by have := (nI_eq (b := 30) (by omega) (by omega)).mp x; omega), if_pos (show nI 0 = (0 : Int32) from rfl)]
  have e83 : ∀ bl, X12_readStep_j83 rc (nI d) (nI kd) bl s = ((pX12_readRest (uA t1 4 (upd (t1.2.2.1 4) w (nI kd))) (nI w)).bind fun x6 => (pX12_isClose x6).bind fun x7 => (pX12_must x6 x7).bind fun x8 => (a_loop (fun (q : RS) => X12_readStep_b140 rc (nI d) bl (nI w) q) FU x8).bind fun (t11 : RS) => X12_readStep_j168 rc bl (nI w) t11) := fun bl => by
    unfold X12_readStep_j83
    rw [h12, if_pos (show nI 0 ≤ (0 : Int32) by decide), h46, thn_eq, thn_eq, nI_1, show (1577 : Int32) + (7 : Int32) * nI k = nI w by rw [show (1577 : Int32) = nI 1577 from rfl, show (7 : Int32) = nI 7 from rfl, pk_mul, nI_add, show 1577 + 7 * k = w by omega], f1, ob_s, g_inT (by omega) (by omega), nI_clamp (by omega), thn_eq]
  by_cases c67 : kd = 6 ∨ kd = 7
  · have d3 := hd c67
    rw [decide_eq_true c67, if_pos rfl, if_neg (show ¬ nI d = (3 : Int32) from fun x => by have := (nI_eq (b := 3) (by omega) (by omega)).mp x; omega)]
    exact e83 true
  · rw [decide_eq_false c67, if_neg Bool.false_ne_true]
    exact e83 false
end V
