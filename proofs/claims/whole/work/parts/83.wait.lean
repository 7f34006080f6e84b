/-! THE VOYAGE: waiting -/
def lds (D : Nat) : List VC → VS → VS
  | [], v => v
  | x :: t, v => lds D t (if x.2.2.1 ≤ D then come v x.1 x.2.1 else v)
def lkp (D : Nat) : List VC → List VC
  | [] => []
  | x :: t => if x.2.2.1 ≤ D then lkp D t else x :: lkp D t
def day1 (D : Nat) (v : VS) : VS := (v.1, (v.2.1.1, D, v.2.1.2.2.1, v.2.1.2.2.2.1, v.2.1.2.2.2.2), v.2.2)
def cgo (v : VS) (l : List VC) : VS := (v.1, v.2.1, v.2.2.1, l)
def vDay (D : Nat) (v : VS) : VS := cgo (lds D v.2.2.2 (day1 D v)) (lkp D v.2.2.2)
def ldS (D i : Nat) : List VC → Nat
  | [] => 0
  | x :: t => (if x.2.2.1 ≤ D ∧ i = x.1 then x.2.1 else 0) ||| ldS D i t
def ldC (D : Nat) : List VC → Nat
  | [] => 0
  | x :: t => (if x.2.2.1 ≤ D then 1 else 0) + ldC D t
theorem lds_eq (D : Nat) : ∀ (t : List VC) (v : VS), lds D t v = (fun i => v.1 i ||| ldS D i t, (v.2.1.1, v.2.1.2.1, v.2.1.2.2.1, v.2.1.2.2.2.1 + ldC D t, v.2.1.2.2.2.2), v.2.2)
  | [], v => by
    have : (fun i => v.1 i ||| ldS D i []) = v.1 := by
      funext i; exact Nat.or_zero _
    rw [this]; rfl
  | x :: t, v => by
    unfold lds
    rw [lds_eq D t]
    by_cases c : x.2.2.1 ≤ D
    · rw [if_pos c]
      have e : (fun i => (come v x.1 x.2.1).1 i ||| ldS D i t) = fun i => v.1 i ||| ldS D i (x :: t) := by
        funext i
        show (if i = x.1 then v.1 x.1 ||| x.2.1 else v.1 i) ||| ldS D i t = v.1 i ||| ((if x.2.2.1 ≤ D ∧ i = x.1 then x.2.1 else 0) ||| ldS D i t)
        by_cases c2 : i = x.1
        · rw [if_pos c2, if_pos ⟨c, c2⟩, c2, Nat.or_assoc]
        · rw [if_neg c2, if_neg (fun h => c2 h.2), Nat.zero_or]
      have e2 : (come v x.1 x.2.1).2.1.2.2.2.1 + ldC D t = v.2.1.2.2.2.1 + ldC D (x :: t) := by
        show v.2.1.2.2.2.1 + 1 + ldC D t = v.2.1.2.2.2.1 + ((if x.2.2.1 ≤ D then 1 else 0) + ldC D t)
        rw [if_pos c]; omega
      rw [e, e2]; rfl
    · rw [if_neg c]
      have e : (fun i => v.1 i ||| ldS D i t) = fun i => v.1 i ||| ldS D i (x :: t) := by
        funext i
        show _ = v.1 i ||| ((if x.2.2.1 ≤ D ∧ i = x.1 then x.2.1 else 0) ||| ldS D i t)
        rw [if_neg (fun h => c h.1), Nat.zero_or]
      have e2 : ldC D (x :: t) = ldC D t := by
        show (if x.2.2.1 ≤ D then 1 else 0) + ldC D t = ldC D t
        rw [if_neg c, Nat.zero_add]
      rw [e, e2]
theorem ldS_c {D E : Nat} (h : D ≤ E) (i : Nat) : ∀ l, ldS D i l ||| ldS E i (lkp D l) = ldS E i l
  | [] => Nat.or_zero _
  | x :: t => by
    have ih := ldS_c h i t
    show ((if x.2.2.1 ≤ D ∧ i = x.1 then x.2.1 else 0) ||| ldS D i t) ||| ldS E i (if x.2.2.1 ≤ D then lkp D t else x :: lkp D t) = (if x.2.2.1 ≤ E ∧ i = x.1 then x.2.1 else 0) ||| ldS E i t
    rw [← ih]
    by_cases c : x.2.2.1 ≤ D
    · rw [if_pos c]
      by_cases c2 : i = x.1
      · rw [if_pos ⟨c, c2⟩, if_pos ⟨by omega, c2⟩, Nat.or_assoc]
      · rw [if_neg (fun h => c2 h.2), if_neg (fun h => c2 h.2), Nat.or_assoc]
    · rw [if_neg c, if_neg (fun h => c h.1), Nat.zero_or]
      show ldS D i t ||| ((if x.2.2.1 ≤ E ∧ i = x.1 then x.2.1 else 0) ||| ldS E i (lkp D t)) = _
      rw [← Nat.or_assoc, Nat.or_comm (ldS D i t), Nat.or_assoc]
theorem ldC_c {D E : Nat} (h : D ≤ E) : ∀ l, ldC D l + ldC E (lkp D l) = ldC E l
  | [] => rfl
  | x :: t => by
    have ih := ldC_c h t
    show ((if x.2.2.1 ≤ D then 1 else 0) + ldC D t) + ldC E (if x.2.2.1 ≤ D then lkp D t else x :: lkp D t) = (if x.2.2.1 ≤ E then 1 else 0) + ldC E t
    by_cases c : x.2.2.1 ≤ D
    · rw [if_pos c, if_pos c, if_pos (by omega)]; omega
    · rw [if_neg c, if_neg c]
      show 0 + ldC D t + ((if x.2.2.1 ≤ E then 1 else 0) + ldC E (lkp D t)) = _
      omega
theorem lkp_c {D E : Nat} (h : D ≤ E) : ∀ l, lkp E (lkp D l) = lkp E l
  | [] => rfl
  | x :: t => by
    have ih := lkp_c h t
    show lkp E (if x.2.2.1 ≤ D then lkp D t else x :: lkp D t) = if x.2.2.1 ≤ E then lkp E t else x :: lkp E t
    by_cases c : x.2.2.1 ≤ D
    · rw [if_pos c, if_pos (by omega), ih]
    · rw [if_neg c]
      show (if x.2.2.1 ≤ E then lkp E (lkp D t) else x :: lkp E (lkp D t)) = _
      rw [ih]
theorem vDay_eq (D : Nat) (v : VS) : vDay D v = (fun i => v.1 i ||| ldS D i v.2.2.2, (v.2.1.1, D, v.2.1.2.2.1, v.2.1.2.2.2.1 + ldC D v.2.2.2, v.2.1.2.2.2.2), v.2.2.1, lkp D v.2.2.2) := by
  unfold vDay
  rw [lds_eq]; rfl
theorem vDay_c {D E : Nat} (h : D ≤ E) (v : VS) : vDay E (vDay D v) = vDay E v := by
  rw [vDay_eq D v, vDay_eq E v, vDay_eq E]
  dsimp only
  have e : (fun i => v.1 i ||| ldS D i v.2.2.2 ||| ldS E i (lkp D v.2.2.2)) = fun i => v.1 i ||| ldS E i v.2.2.2 := by
    funext i
    rw [Nat.or_assoc, ldS_c h]
  rw [e, lkp_c h, Nat.add_assoc, ldC_c h]
def days : Nat → VS → VS
  | 0, v => v
  | m + 1, v => days m (vDay (v.2.1.2.1 + 1) v)
theorem vDay_d (D : Nat) (v : VS) : (vDay D v).2.1.2.1 = D ∧ (vDay D v).2.1.1 = v.2.1.1 := by rw [vDay_eq]; exact ⟨rfl, rfl⟩
theorem days_eq : ∀ (m : Nat) (v : VS), days (m + 1) v = vDay (v.2.1.2.1 + (m + 1)) v
  | 0, v => rfl
  | m + 1, v => by
    show days (m + 1) (vDay (v.2.1.2.1 + 1) v) = _
    rw [days_eq m, (vDay_d _ v).1, vDay_c (by omega), show v.2.1.2.1 + 1 + (m + 1) = v.2.1.2.1 + (m + 1 + 1) by omega]
/-- what is wanted of the cargoes -/
def cW (l : List VC) : Prop := l.length ≤ 20 ∧ ∀ x, x ∈ l → x.1 < 4 ∧ x.2.2.1 < 100000
theorem lkp_len (D : Nat) : ∀ l, (lkp D l).length ≤ l.length
  | [] => Nat.le_refl _
  | x :: t => by
    have ih := lkp_len D t
    show (if x.2.2.1 ≤ D then lkp D t else x :: lkp D t).length ≤ _
    rw [List.length_cons]
    by_cases c : x.2.2.1 ≤ D
    · rw [if_pos c]; omega
    · rw [if_neg c, List.length_cons]; omega
theorem lkp_mem {D : Nat} {y : VC} : ∀ {l}, y ∈ lkp D l → y ∈ l
  | [], h => h
  | x :: t, h => by
    have h' : y ∈ (if x.2.2.1 ≤ D then lkp D t else x :: lkp D t) := h
    by_cases c : x.2.2.1 ≤ D
    · rw [if_pos c] at h'; exact List.mem_cons_of_mem _ (lkp_mem h')
    · rw [if_neg c] at h'
      rcases List.mem_cons.mp h' with e | e
      · rw [e]; exact List.mem_cons_self
      · exact List.mem_cons_of_mem _ (lkp_mem e)
theorem cW_lkp {l : List VC} (h : cW l) (D : Nat) : cW (lkp D l) := ⟨Nat.le_trans (lkp_len D l) h.1, fun x hx => h.2 x (lkp_mem hx)⟩
theorem mid_get {α : Type} (g : List α) (x : α) (t : List α) : (g ++ x :: t)[g.length]? = some x := by
  rw [List.getElem?_append_right (Nat.le_refl _), Nat.sub_self]; rfl
theorem take_sh (f f' : Nat → Int32) (g : List VC) (x : VC) (t : List VC) (P : VC → Int32) (h : ∀ k y, (g ++ x :: t)[k]? = some y → f k = P y) (h' : ∀ j, f' j = if g.length ≤ j ∧ j < g.length + t.length then f (j + 1) else f j) : ∀ k y, (g ++ t)[k]? = some y → f' k = P y := by
  intro k y hy
  rw [h' k]
  by_cases c : k < g.length
  · rw [List.getElem?_append_left c] at hy
    rw [if_neg (by omega)]
    exact h k y (by rw [List.getElem?_append_left c]; exact hy)
  · rw [List.getElem?_append_right (by omega)] at hy
    have c2 : k - g.length < t.length := by
      rcases Nat.lt_or_ge (k - g.length) t.length with c2 | c2
      · exact c2
      · rw [List.getElem?_eq_none c2] at hy; cases hy
    rw [if_pos (by omega)]
    refine h (k + 1) y ?_
    rw [List.getElem?_append_right (by omega), show k + 1 - g.length = (k - g.length) + 1 by omega, List.getElem?_cons_succ]
    exact hy
section V
variable {s q r lg : RS} {B : Nat → Nat} {v : VS}
theorem r_takeL : ∀ (n m : Nat) (s : RS) (N c : Nat), m + n = c → c ≤ 19 → s.1 35 = nI c → n < N → ∃ s', a_loop (fun (y : Int32 × RS) => X12_takeAway_b12 y.1 y.2) N (nI m, s) = some s' ∧ s'.1 = s.1 ∧ rV s s' ∧ s'.2.2.1 4 = s.2.2.1 4 ∧ ∀ a, 10 ≤ a → a ≤ 13 → ∀ j, s'.2.2.1 a j = if m ≤ j ∧ j < c then s.2.2.1 a (j + 1) else s.2.2.1 a j
  | n, m, s, 0, c, _, _, _, h => absurd h (Nat.not_lt_zero _)
  | 0, m, s, N + 1, c, hc, h19, hs, _ => by
    refine ⟨s, lp_e ?_, rfl, rV_rf s, rfl, fun a _ _ j => by rw [if_neg (by omega)]⟩
    dsimp only [X12_takeAway_b12]
    rw [hs, if_pos (nI_le (by omega) (by omega))]
  | n + 1, m, s, N + 1, c, hc, h19, hs, hN => by
    have hb : ∃ s1, (fun (y : Int32 × RS) => X12_takeAway_b12 y.1 y.2) (nI m, s) = some (.inl (nI (m + 1), s1)) ∧ s1.1 = s.1 ∧ rV s s1 ∧ s1.2.2.1 4 = s.2.2.1 4 ∧ s1.2.2.1 10 = upd (s.2.2.1 10) m (s.2.2.1 10 (m + 1)) ∧ s1.2.2.1 11 = upd (s.2.2.1 11) m (s.2.2.1 11 (m + 1)) ∧ s1.2.2.1 12 = upd (s.2.2.1 12) m (s.2.2.1 12 (m + 1)) ∧ s1.2.2.1 13 = upd (s.2.2.1 13) m (s.2.2.1 13 (m + 1)) := by
      dsimp only [X12_takeAway_b12]
      rw [hs, if_neg (nI_ge (by omega) (by omega)), nI_1]
      simp (disch := omega) only [g_inT, nI_clamp, thn_eq]
      refine ⟨_, rfl, rfl, ?_, rfl, rfl, rfl, rfl, rfl⟩
      exact rV_tr (rV_tr (rV_tr (rV_uAc _ _ (by omega)) (rV_uAc _ _ (by omega))) (rV_uAc _ _ (by omega))) (rV_uAc _ _ (by omega))
    obtain ⟨s1, e1, e2, e3, e4, a0, a1, a2, a3⟩ := hb
    rw [lp_s e1]
    obtain ⟨s', f1, f2, f3, f4, f5⟩ := r_takeL n (m + 1) s1 N c (by omega) h19 (by rw [e2]; exact hs) (by omega)
    refine ⟨s', f1, f2.trans e2, rV_tr e3 f3, f4.trans e4, fun a h1 h2 j => ?_⟩
    rw [f5 a h1 h2 j]
    have ea : s1.2.2.1 a = upd (s.2.2.1 a) m (s.2.2.1 a (m + 1)) := by
      rcases (show a = 10 ∨ a = 11 ∨ a = 12 ∨ a = 13 by omega) with rfl | rfl | rfl | rfl
      · exact a0
      · exact a1
      · exact a2
      · exact a3
    rw [ea]
    by_cases c1 : j = m
    · rw [if_neg (by omega), if_pos (by omega), c1, upd_at]
    · by_cases c2 : m + 1 ≤ j ∧ j < c
      · rw [if_pos c2, if_pos (by omega), upd_ne _ _ (by omega)]
      · rw [if_neg c2, if_neg (by omega), upd_ne _ _ c1]
theorem r_takeAway {g t : List VC} {x : VC} (hs : vrR (cgo v (g ++ x :: t)) s) (hl : (g ++ x :: t).length ≤ 20) : ∃ s', pX12_takeAway s (nI g.length) = some s' ∧ vrR (cgo v (g ++ t)) s' ∧ rV s s' := by
  have ll : (g ++ x :: t).length = g.length + t.length + 1 := by rw [List.length_append, List.length_cons]; omega
  have c1 : s.1 35 = nI (g.length + t.length + 1) := by rw [← ll]; exact hs.2.2.2.1
  have hc := hs.2.2.2.2
  unfold pX12_takeAway
  rw [c1, show (1 : Int32) = nI 1 from rfl, sbI (by omega), thn_eq]
  obtain ⟨s', f1, f2, f3, f4, f5⟩ := r_takeL t.length g.length (uI s 35 (nI (g.length + t.length + 1 - 1))) FU (g.length + t.length) rfl (by omega) rfl (by show _ < 100000; omega)
  rw [f1]
  refine ⟨s', rfl, ⟨fun i hi => ?_, ?_, ?_, ?_, ?_⟩, rV_tr (rV_uI _ _ (by omega)) f3⟩
  · rw [f4]; exact hs.1 i hi
  · rw [f2]; exact hs.2.1
  · rw [f2]; exact hs.2.2.1
  · rw [f2]
    show nI (g.length + t.length + 1 - 1) = nI (g ++ t).length
    rw [List.length_append]; rfl
  · intro k y hy
    exact ⟨take_sh (s.2.2.1 10) (s'.2.2.1 10) g x t (fun y => nI y.1) (fun k y h => (hc k y h).1) (f5 10 (by omega) (by omega)) k y hy, take_sh (s.2.2.1 11) (s'.2.2.1 11) g x t (fun y => nI y.2.1) (fun k y h => (hc k y h).2.1) (f5 11 (by omega) (by omega)) k y hy, take_sh (s.2.2.1 12) (s'.2.2.1 12) g x t (fun y => nI y.2.2.1) (fun k y h => (hc k y h).2.2.1) (f5 12 (by omega) (by omega)) k y hy, take_sh (s.2.2.1 13) (s'.2.2.1 13) g x t (fun y => nI y.2.2.2) (fun k y h => (hc k y h).2.2.2) (f5 13 (by omega) (by omega)) k y hy⟩
theorem r_waitL (D : Nat) (hD : D < 100000) (i1 i2 : Int32) : ∀ (t g : List VC) (v : VS) (s : RS) (N : Nat), vrR (cgo v (g ++ t)) s → cW (g ++ t) → v.2.1.2.1 = D → t.length < N → ∃ s', a_loop (fun (y : Int32 × RS) => X12_doWait_b19 i1 i2 y.1 y.2) N (nI g.length, s) = some s' ∧ vrR (cgo (lds D t v) (g ++ lkp D t)) s' ∧ rV s s'
  | t, g, v, s, 0, _, _, _, h => absurd h (Nat.not_lt_zero _)
  | [], g, v, s, N + 1, hs, hw, hd, hN => by
    refine ⟨s, lp_e ?_, hs, rV_rf s⟩
    dsimp only [X12_doWait_b19]
    rw [show s.1 35 = nI g.length by have := hs.2.2.2.1; rw [List.append_nil] at this; exact this, if_pos (nI_le (Nat.le_refl _) (by have := hw.1; rw [List.append_nil] at this; omega))]
  | x :: t, g, v, s, N + 1, hs, hw, hd, hN => by
    have ll : (g ++ x :: t).length = g.length + t.length + 1 := by rw [List.length_append, List.length_cons]; omega
    have l20 := hw.1
    have c1 : s.1 35 = nI (g.length + t.length + 1) := by rw [← ll]; exact hs.2.2.2.1
    have hx := hs.2.2.2.2 g.length x (mid_get g x t)
    have cx := hw.2 x (List.mem_append.mpr (Or.inr List.mem_cons_self))
    have sd : s.1 39 = nI D := by rw [← hd]; exact hs.2.1.2.1
    have hNt : t.length < N := by rw [List.length_cons] at hN; omega
    by_cases c : x.2.2.1 ≤ D
    · have hb : ∃ s1, (fun (y : Int32 × RS) => X12_doWait_b19 i1 i2 y.1 y.2) (nI g.length, s) = some (.inl (nI g.length, s1)) ∧ vrR (cgo (come v x.1 x.2.1) (g ++ t)) s1 ∧ rV s s1 := by
        dsimp only [X12_doWait_b19]
        rw [c1, if_neg (nI_ge (by omega) (by omega)), g_inT (by omega) (by omega), g_inT (by omega) (by omega), g_inT (by omega) (by omega), nI_clamp (by omega), hx.1, hx.2.1, hx.2.2.1, sd, if_pos (nI_le c (by omega))]
        obtain ⟨s1, e1, e2, e3⟩ := r_comes hs cx.1 x.2.1
        have e2' : vrR (cgo (come v x.1 x.2.1) (g ++ x :: t)) s1 := e2
        obtain ⟨s2, f1, f2, f3⟩ := r_takeAway e2' l20
        rw [e1, ob_s, f1, ob_s]
        exact ⟨s2, rfl, f2, rV_tr e3 f3⟩
      obtain ⟨s1, e1, e2, e3⟩ := hb
      rw [lp_s e1]
      obtain ⟨s', f1, f2, f3⟩ := r_waitL D hD i1 i2 t g (come v x.1 x.2.1) s1 N e2 ⟨by rw [List.length_append]; omega, fun y hy => hw.2 y (by
        rcases List.mem_append.mp hy with m | m
        · exact List.mem_append.mpr (Or.inl m)
        · exact List.mem_append.mpr (Or.inr (List.mem_cons_of_mem _ m)))⟩ hd hNt
      refine ⟨s', f1, ?_, rV_tr e3 f3⟩
      show vrR (cgo (lds D t (if x.2.2.1 ≤ D then come v x.1 x.2.1 else v)) (g ++ if x.2.2.1 ≤ D then lkp D t else x :: lkp D t)) s'
      rw [if_pos c, if_pos c]; exact f2
    · have hb : (fun (y : Int32 × RS) => X12_doWait_b19 i1 i2 y.1 y.2) (nI g.length, s) = some (.inl (nI (g ++ [x]).length, s)) := by
        dsimp only [X12_doWait_b19]
        rw [c1, if_neg (nI_ge (by omega) (by omega)), g_inT (by omega) (by omega), nI_clamp (by omega), hx.2.2.1, sd, if_neg (nI_ge (by omega) (by omega)), thn_eq, len_app, nI_1]
      rw [lp_s hb]
      have ea : g ++ x :: t = (g ++ [x]) ++ t := by rw [List.append_assoc]; rfl
      obtain ⟨s', f1, f2, f3⟩ := r_waitL D hD i1 i2 t (g ++ [x]) v s N (by rw [← ea]; exact hs) (by rw [← ea]; exact hw) hd hNt
      refine ⟨s', f1, ?_, f3⟩
      show vrR (cgo (lds D t (if x.2.2.1 ≤ D then come v x.1 x.2.1 else v)) (g ++ if x.2.2.1 ≤ D then lkp D t else x :: lkp D t)) s'
      rw [if_neg c, if_neg c, show g ++ x :: lkp D t = (g ++ [x]) ++ lkp D t by rw [List.append_assoc]; rfl]
      exact f2
theorem r_days (n : Nat) (hn : n ≤ 99) : ∀ (m j : Nat) (v : VS) (s : RS) (N : Nat), j + m = n → vrR v s → cW v.2.2.2 → v.2.1.2.1 + m < 100000 → m < N → ∃ s', a_loop (fun (y : Int32 × RS) => X12_doWait_b2 (nI n) y.1 y.2) N (nI j, s) = some s' ∧ vrR (days m v) s' ∧ rV s s'
  | m, j, v, s, 0, _, _, _, _, h => absurd h (Nat.not_lt_zero _)
  | 0, j, v, s, N + 1, hj, hs, hw, hd, _ => by
    refine ⟨s, lp_e ?_, hs, rV_rf s⟩
    dsimp only [X12_doWait_b2]
    rw [if_pos (nI_le (by omega) (by omega))]
  | m + 1, j, v, s, N + 1, hj, hs, hw, hd, hN => by
    have h1 : vrR (cgo (day1 (v.2.1.2.1 + 1) v) ([] ++ v.2.2.2)) (uI s 39 (nI (v.2.1.2.1 + 1))) := ⟨hs.1, ⟨hs.2.1.1, rfl, hs.2.1.2.2⟩, hs.2.2⟩
    obtain ⟨s1, e1, e2, e3⟩ := r_waitL (v.2.1.2.1 + 1) (by omega) (nI n) (nI j) v.2.2.2 [] (day1 (v.2.1.2.1 + 1) v) _ FU h1 hw rfl (by have := hw.1; show _ < 100000; omega)
    have hb : (fun (y : Int32 × RS) => X12_doWait_b2 (nI n) y.1 y.2) (nI j, s) = some (.inl (nI (j + 1), s1)) := by
      dsimp only [X12_doWait_b2]
      rw [if_neg (nI_ge (by omega) (by omega)), hs.2.1.2.1, nI_1, thn_eq]
      refine bd e1 ?_
      rw [thn_eq, nI_1]
    rw [lp_s hb]
    have e2' : vrR (vDay (v.2.1.2.1 + 1) v) s1 := e2
    obtain ⟨s', f1, f2, f3⟩ := r_days n hn m (j + 1) (vDay (v.2.1.2.1 + 1) v) s1 N (by omega) e2' (cW_lkp hw _) (by rw [(vDay_d _ v).1]; omega) (by omega)
    exact ⟨s', f1, f2, rV_tr (rV_tr (rV_uI _ _ (by omega)) e3) f3⟩
theorem vW_c (hw : wfB B) (hv : vW B v) : cW v.2.2.2 := ⟨hv.2.2.2.2.2.1, fun x hx => ⟨by have := (hv.2.2.2.2.2.2 x hx).1; have := hw.2.1; omega, (hv.2.2.2.2.2.2 x hx).2.2.1⟩⟩
theorem r_doWait (hw : wfB B) (hv : vW B v) (hs : vrR v s) {n : Nat} (h1 : 1 ≤ n) (hn : n ≤ 99) : ∃ s', pX12_doWait s (nI n) = some s' ∧ vrR (vDay (v.2.1.2.1 + n) v) s' ∧ rV s s' := by
  unfold pX12_doWait
  have h2 := hv.2.1
  have h3 := hv.2.2.1
  obtain ⟨s', f1, f2, f3⟩ := r_days n hn n 0 v s FU (by omega) hs (vW_c hw hv) (by omega) (by show _ < 100000; omega)
  refine ⟨s', bd f1 rfl, ?_, f3⟩
  obtain ⟨m, rfl⟩ := Nat.exists_eq_succ_of_ne_zero (show n ≠ 0 by omega)
  have := days_eq m v
  rw [← this]; exact f2
end V
