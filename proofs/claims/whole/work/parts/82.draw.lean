/-! THE VOYAGE: a draw -/
def rnd (r : Nat) : Nat := (r * 2749 + 9733) % 65536
def vRnd (v : VS) : VS := (v.1, v.2.1, (v.2.2.1.1, rnd v.2.2.1.2), v.2.2.2)
def lsh (l : List VC) : Option Nat := (l[l.length - 1]?).map (fun x => x.2.2.2)
def pop (v : VS) : VS := (v.1, (v.2.1.1, v.2.1.2.1, v.2.1.2.2.1, v.2.1.2.2.2.1, v.2.1.2.2.2.2 + 1), v.2.2.1, v.2.2.2.dropLast)
def drw (sh : Nat) : Nat → VS → VS
  | 0, v => v
  | n + 1, v => if lsh v.2.2.2 = some sh then drw sh n (pop v) else v
def vDraw (n : Nat) (v : VS) : VS := if n ≤ rnd v.2.2.1.2 / 8 % 16 then vRnd v else (lsh v.2.2.2).elim (vRnd v) (fun sh => drw sh 20 (vRnd v))
theorem lsh_c (l : List VC) : (l = [] ∧ lsh l = none) ∨ ∃ x, x ∈ l ∧ l[l.length - 1]? = some x ∧ lsh l = some x.2.2.2 ∧ 0 < l.length := by
  cases l with
  | nil => exact Or.inl ⟨rfl, rfl⟩
  | cons a t =>
    have h : (a :: t).length - 1 < (a :: t).length := by rw [List.length_cons]; omega
    have e := List.getElem?_eq_getElem h
    refine Or.inr ⟨_, List.mem_of_getElem? e, e, ?_, by rw [List.length_cons]; omega⟩
    unfold lsh
    rw [e]; rfl
theorem rnd_I {r : Nat} (h : r < 65536) : nI r * (2749 : Int32) + (9733 : Int32) - (nI r * (2749 : Int32) + (9733 : Int32)) / (65536 : Int32) * (65536 : Int32) = nI (rnd r) := by
  unfold rnd
  have hx : r * 2749 + 9733 < 2 ^ 31 := by omega
  rw [show (2749 : Int32) = nI 2749 from rfl, show (9733 : Int32) = nI 9733 from rfl, show (65536 : Int32) = nI 65536 from rfl, pk_mul, nI_add, pk_div hx (by omega) (by omega), pk_mul, sbI (by omega), show r * 2749 + 9733 - (r * 2749 + 9733) / 65536 * 65536 = (r * 2749 + 9733) % 65536 by omega]
theorem rnd_J {r : Nat} (h : r < 65536) : nI r / (8 : Int32) - nI r / (8 : Int32) / (16 : Int32) * (16 : Int32) = nI (r / 8 % 16) := by
  rw [show (8 : Int32) = nI 8 from rfl, show (16 : Int32) = nI 16 from rfl, pk_div (by omega) (by omega) (by omega), pk_div (by omega) (by omega) (by omega), pk_mul, sbI (by omega), show r / 8 - r / 8 / 16 * 16 = r / 8 % 16 by omega]
theorem rnd_lt (r : Nat) : rnd r < 65536 := Nat.mod_lt (r * 2749 + 9733) (by omega)
theorem pop_ok {B : Nat → Nat} {v : VS} (h : vW B v) : vW B (pop v) := ⟨h.1, h.2.1, h.2.2.1, h.2.2.2.1, h.2.2.2.2.1, by show v.2.2.2.dropLast.length ≤ 20; rw [List.length_dropLast]; have := h.2.2.2.2.2.1; omega, fun x hx => h.2.2.2.2.2.2 x (List.dropLast_subset _ hx)⟩
theorem drw_ok {B : Nat → Nat} (sh : Nat) : ∀ (n : Nat) (v : VS), vW B v → vW B (drw sh n v) ∧ (drw sh n v).2.1.1 = v.2.1.1 ∧ (drw sh n v).2.1.2.1 = v.2.1.2.1
  | 0, v, h => ⟨h, rfl, rfl⟩
  | n + 1, v, h => by
    unfold drw
    by_cases c : lsh v.2.2.2 = some sh
    · rw [if_pos c]; exact drw_ok sh n (pop v) (pop_ok h)
    · rw [if_neg c]; exact ⟨h, rfl, rfl⟩
theorem vRnd_ok {B : Nat → Nat} {v : VS} (h : vW B v) : vW B (vRnd v) := by
  unfold vW vRnd
  dsimp only
  exact ⟨h.1, h.2.1, h.2.2.1, h.2.2.2.1, rnd_lt v.2.2.1.2, h.2.2.2.2.2⟩
theorem vDraw_ok {B : Nat → Nat} {v : VS} (n : Nat) (h : vW B v) : vW B (vDraw n v) ∧ (vDraw n v).2.1.1 = v.2.1.1 ∧ (vDraw n v).2.1.2.1 = v.2.1.2.1 := by
  unfold vDraw
  by_cases c : n ≤ rnd v.2.2.1.2 / 8 % 16
  · rw [if_pos c]; exact ⟨vRnd_ok h, rfl, rfl⟩
  · rw [if_neg c]
    cases lsh v.2.2.2 with
    | none => exact ⟨vRnd_ok h, rfl, rfl⟩
    | some sh => exact drw_ok sh 20 _ (vRnd_ok h)
theorem dl_get {l : List VC} {k : Nat} {x : VC} (h : l.dropLast[k]? = some x) : l[k]? = some x := by
  rw [List.getElem?_dropLast] at h
  by_cases c : k < l.length - 1
  · rw [if_pos c] at h; exact h
  · rw [if_neg c] at h; cases h
section V
variable {s q r lg : RS} {B : Nat → Nat} {v : VS}
theorem vrR_pop (hs : vrR v s) (h : 0 < v.2.2.2.length) : vrR (pop v) (uI (uI s 35 (s.1 35 - (1 : Int32))) 42 ((uI s 35 (s.1 35 - (1 : Int32))).1 42 + (1 : Int32))) := by
  refine ⟨hs.1, ⟨hs.2.1.1, hs.2.1.2.1, hs.2.1.2.2.1, hs.2.1.2.2.2.1, ?_⟩, hs.2.2.1, ?_, fun k x hx => hs.2.2.2.2 k x (dl_get hx)⟩
  · show s.1 42 + (1 : Int32) = _
    rw [hs.2.1.2.2.2.2, nI_1]; rfl
  · show s.1 35 - (1 : Int32) = nI v.2.2.2.dropLast.length
    rw [hs.2.2.2.1, List.length_dropLast, show (1 : Int32) = nI 1 from rfl, sbI (by omega)]
theorem vrX_pop (hq : vrX v q) (h : 0 < v.2.2.2.length) : vrX (pop v) (uI (uI q 6 (q.1 6 - (1 : Int32))) 5 ((uI q 6 (q.1 6 - (1 : Int32))).1 5 + (1 : Int32))) := by
  refine ⟨hq.1, ⟨hq.2.1.1, hq.2.1.2.1, hq.2.1.2.2.1, hq.2.1.2.2.2.1, ?_⟩, hq.2.2.1, ?_, fun k x hx => hq.2.2.2.2 k x (dl_get hx)⟩
  · show q.1 5 + (1 : Int32) = _
    rw [hq.2.1.2.2.2.2, nI_1]; rfl
  · show q.1 6 - (1 : Int32) = nI v.2.2.2.dropLast.length
    rw [hq.2.2.2.1, List.length_dropLast, show (1 : Int32) = nI 1 from rfl, sbI (by omega)]
theorem r_drw {sh : Nat} (hsh : sh < 100000) : ∀ (n : Nat) (v : VS) (s : RS) (N : Nat), vW B v → vrR v s → v.2.2.2.length ≤ n → n < N → ∃ s', a_loop (fun (q : RS) => X12_doDraw_b28 (nI sh) q) N s = some s' ∧ vrR (drw sh n v) s' ∧ rV s s'
  | n, v, s, 0, _, _, _, h => absurd h (Nat.not_lt_zero _)
  | n, v, s, N + 1, hv, hs, hl, hN => by
    have c1 := hs.2.2.2.1
    have l20 := hv.2.2.2.2.2.1
    rcases lsh_c v.2.2.2 with ⟨e, e2⟩ | ⟨x, e1, e2, e3, e4⟩
    · have hb : X12_doDraw_b28 (nI sh) s = some (.inr s) := by
        unfold X12_doDraw_b28
        rw [c1, e]; exact if_pos (by decide)
      refine ⟨s, lp_e hb, ?_, rV_rf s⟩
      have : drw sh n v = v := by
        cases n with
        | zero => rfl
        | succ n => unfold drw; rw [e2]; rfl
      rw [this]; exact hs
    · obtain ⟨m, rfl⟩ := Nat.exists_eq_succ_of_ne_zero (show n ≠ 0 by omega)
      have cx := hv.2.2.2.2.2.2 x e1
      have rx := hs.2.2.2.2 _ x e2
      have hb : X12_doDraw_b28 (nI sh) s = if x.2.2.2 = sh then some (.inl (uI (uI s 35 (s.1 35 - (1 : Int32))) 42 ((uI s 35 (s.1 35 - (1 : Int32))).1 42 + (1 : Int32)))) else some (.inr s) := by
        unfold X12_doDraw_b28
        have c2 : s.1 35 - (1 : Int32) = nI (v.2.2.2.length - 1) := by rw [c1, show (1 : Int32) = nI 1 from rfl, sbI (by omega)]
        rw [if_neg (by rw [c1]; exact nI_ge (a := 0) e4 (by omega)), c2, g_inT (by omega) (by omega), nI_clamp (by omega), rx.2.2.2, ifE (by have := cx.2.2.2; omega) (by omega), thn_eq, thn_eq]
      show ∃ s', _ = some s' ∧ vrR (if lsh v.2.2.2 = some sh then drw sh m (pop v) else v) s' ∧ rV s s'
      by_cases c : x.2.2.2 = sh
      · rw [if_pos (by rw [e3, c])]
        rw [if_pos c] at hb
        rw [lp_s hb]
        obtain ⟨s', f1, f2, f3⟩ := r_drw hsh m (pop v) _ N (pop_ok hv) (vrR_pop hs e4) (by show v.2.2.2.dropLast.length ≤ m; rw [List.length_dropLast]; omega) (by omega)
        exact ⟨s', f1, f2, rV_tr (rV_tr (rV_uI _ _ (by omega)) (rV_uI _ _ (by omega))) f3⟩
      · rw [if_neg (by rw [e3]; exact fun q => c (Option.some.inj q))]
        rw [if_neg c] at hb
        exact ⟨s, lp_e hb, hs, rV_rf s⟩
theorem x_drw {sh : Nat} (hsh : sh < 100000) : ∀ (n : Nat) (v : VS) (q : RS) (N : Nat), vW B v → vrX v q → n ≤ 20 → n < N → ∃ q', a_loop (fun (y : Int32 × RS) => X10_draw_b65 (nI sh) y.1 y.2 r lg) N (nI n, q) = some q' ∧ vrX (drw sh n v) q' ∧ qV q q'
  | n, v, q, 0, _, _, _, h => absurd h (Nat.not_lt_zero _)
  | 0, v, q, N + 1, hv, hq, hn, hN => ⟨q, lp_e (if_pos (show nI 0 ≤ (0 : Int32) by decide)), hq, rfl⟩
  | m + 1, v, q, N + 1, hv, hq, hn, hN => by
    have c1 := hq.2.2.2.1
    have l20 := hv.2.2.2.2.2.1
    have n0 : ¬ nI (m + 1) ≤ (0 : Int32) := nI_ge (a := 0) (by omega) (by omega)
    rcases lsh_c v.2.2.2 with ⟨e, e2⟩ | ⟨x, e1, e2, e3, e4⟩
    · have hb : (fun (y : Int32 × RS) => X10_draw_b65 (nI sh) y.1 y.2 r lg) (nI (m + 1), q) = some (.inr q) := by
        dsimp only [X10_draw_b65]
        rw [if_neg n0, c1, e]; exact if_pos (by decide)
      refine ⟨q, lp_e hb, ?_, rfl⟩
      have : drw sh (m + 1) v = v := by
        unfold drw; rw [e2]; rfl
      rw [this]; exact hq
    · have cx := hv.2.2.2.2.2.2 x e1
      have rx := hq.2.2.2.2 _ x e2
      have hb : (fun (y : Int32 × RS) => X10_draw_b65 (nI sh) y.1 y.2 r lg) (nI (m + 1), q) = if x.2.2.2 = sh then some (.inl (nI m, uI (uI q 6 (q.1 6 - (1 : Int32))) 5 ((uI q 6 (q.1 6 - (1 : Int32))).1 5 + (1 : Int32)))) else some (.inr q) := by
        dsimp only [X10_draw_b65]
        have c2 : q.1 6 - (1 : Int32) = nI (v.2.2.2.length - 1) := by rw [c1, show (1 : Int32) = nI 1 from rfl, sbI (by omega)]
        rw [if_neg n0, if_neg (by rw [c1]; exact nI_ge (a := 0) e4 (by omega)), c2, g_inT (by omega) (by omega), nI_clamp (by omega), rx.2.2.2, ifE (by have := cx.2.2.2; omega) (by omega), thn_eq, thn_eq, thn_eq, show nI (m + 1) + (-1) = nI m from pk_m1 m]
      show ∃ s', _ = some s' ∧ vrX (if lsh v.2.2.2 = some sh then drw sh m (pop v) else v) s' ∧ qV q s'
      by_cases c : x.2.2.2 = sh
      · rw [if_pos (by rw [e3, c])]
        rw [if_pos c] at hb
        rw [lp_s hb]
        obtain ⟨s', f1, f2, f3⟩ := x_drw hsh m (pop v) _ N (pop_ok hv) (vrX_pop hq e4) (by omega) (by omega)
        exact ⟨s', f1, f2, f3⟩
      · rw [if_neg (by rw [e3]; exact fun q => c (Option.some.inj q))]
        rw [if_neg c] at hb
        exact ⟨q, lp_e hb, hq, rfl⟩
theorem r_doDraw (hv : vW B v) (hs : vrR v s) {n : Nat} (hn : n ≤ 16) : ∃ s', pX12_doDraw s (nI n) = some s' ∧ vrR (vDraw n v) s' ∧ rV s s' := by
  have l20 := hv.2.2.2.2.2.1
  unfold pX12_doDraw pX12_draw
  have e0 : s.1 37 = nI v.2.2.1.2 := hs.2.2.1.2
  rw [e0, rnd_I hv.2.2.2.2.1, thn_eq, show (uI s 37 (nI (rnd v.2.2.1.2))).1 37 = nI (rnd v.2.2.1.2) from rfl, rnd_J (rnd_lt _), ob_s]
  have h1 : vrR (vRnd v) (uI s 37 (nI (rnd v.2.2.1.2))) := by
    unfold vrR vRnd
    dsimp only
    exact ⟨hs.1, hs.2.1, ⟨hs.2.2.1.1, rfl⟩, hs.2.2.2⟩
  have k1 : rV s (uI s 37 (nI (rnd v.2.2.1.2))) := rV_uI _ _ (by omega)
  have c1 : (uI s 37 (nI (rnd v.2.2.1.2))).1 35 = nI v.2.2.2.length := hs.2.2.2.1
  have g1 : cgR v.2.2.2 (uI s 37 (nI (rnd v.2.2.1.2))) := hs.2.2.2
  generalize uI s 37 (nI (rnd v.2.2.1.2)) = s1 at h1 k1 c1 g1
  dsimp only
  unfold vDraw
  rw [ifLe (by omega) (by omega)]
  by_cases c : n ≤ rnd v.2.2.1.2 / 8 % 16
  · rw [if_pos c, if_pos c]; exact ⟨s1, rfl, h1, k1⟩
  · rw [if_neg c, if_neg c, c1]
    rcases lsh_c v.2.2.2 with ⟨e, e2⟩ | ⟨x, e1, e2, e3, e4⟩
    · rw [e2, e]
      exact ⟨s1, rfl, h1, k1⟩
    · have cx := hv.2.2.2.2.2.2 x e1
      have rx := g1.2 _ x e2
      rw [e3, if_neg (show ¬ nI v.2.2.2.length = (0 : Int32) from fun q => by have := (nI_eq (b := 0) (by omega) (by omega)).mp q; omega), show (1 : Int32) = nI 1 from rfl, sbI (by omega), g_inT (by omega) (by omega), nI_clamp (by omega), rx.2.2.2, thn_eq]
      obtain ⟨s', f1, f2, f3⟩ := r_drw cx.2.2.2 20 (vRnd v) s1 FU (vRnd_ok hv) h1 (by unfold vRnd; dsimp only; exact l20) (by decide)
      rw [f1]
      exact ⟨s', rfl, f2, rV_tr k1 f3⟩
theorem x_draw (hv : vW B v) (hq : vrX v q) {n : Nat} (hn : n ≤ 16) : ∃ q', pX10_draw q r lg (nI n) = some q' ∧ vrX (vDraw n v) q' ∧ qV q q' := by
  have l20 := hv.2.2.2.2.2.1
  unfold pX10_draw
  have e0 : q.1 9 = nI v.2.2.1.2 := hq.2.2.1.2
  rw [e0, rnd_I hv.2.2.2.2.1, thn_eq, show (uI q 9 (nI (rnd v.2.2.1.2))).1 9 = nI (rnd v.2.2.1.2) from rfl, rnd_J (rnd_lt _)]
  have h1 : vrX (vRnd v) (uI q 9 (nI (rnd v.2.2.1.2))) := by
    unfold vrX vRnd
    dsimp only
    exact ⟨hq.1, hq.2.1, ⟨hq.2.2.1.1, rfl⟩, hq.2.2.2⟩
  have k1 : qV q (uI q 9 (nI (rnd v.2.2.1.2))) := rfl
  have c1 : (uI q 9 (nI (rnd v.2.2.1.2))).1 6 = nI v.2.2.2.length := hq.2.2.2.1
  have g1 : cgX v.2.2.2 (uI q 9 (nI (rnd v.2.2.1.2))) := hq.2.2.2
  generalize uI q 9 (nI (rnd v.2.2.1.2)) = s1 at h1 k1 c1 g1
  unfold vDraw
  rw [ifLe (by omega) (by omega)]
  by_cases c : n ≤ rnd v.2.2.1.2 / 8 % 16
  · rw [if_pos c, if_pos c]; exact ⟨s1, rfl, h1, k1⟩
  · rw [if_neg c, if_neg c, c1]
    rcases lsh_c v.2.2.2 with ⟨e, e2⟩ | ⟨x, e1, e2, e3, e4⟩
    · rw [e2, e]
      exact ⟨s1, if_pos (by decide), h1, k1⟩
    · have cx := hv.2.2.2.2.2.2 x e1
      have rx := g1.2 _ x e2
      rw [e3, if_neg (show ¬ nI v.2.2.2.length ≤ (0 : Int32) from nI_ge (a := 0) e4 (by omega)), show (20 : Int32) = nI 20 from rfl, if_pos (nI_le l20 (by omega)), show (1 : Int32) = nI 1 from rfl, sbI (by omega), g_inT (by omega) (by omega), nI_clamp (by omega), rx.2.2.2, thn_eq]
      obtain ⟨s', f1, f2, f3⟩ := x_drw (r := r) (lg := lg) cx.2.2.2 20 (vRnd v) s1 FU (vRnd_ok hv) h1 (by decide) (by decide)
      rw [f1]
      exact ⟨s', rfl, f2, f3.trans k1⟩
end V
