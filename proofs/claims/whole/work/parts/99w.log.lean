/-! TEXTS: log, both ways -/
/-- behind a text: what both have of it, and what stays -/
def txE (tb : Nat → Int64) (s s' q' : RS) : Prop := (s'.1 8 = nI 0 ∧ q'.1 2 = nI 0 ∧ s'.1 10 = q'.1 3 ∧ s'.1 11 = q'.1 4 ∧ q'.2.2.2 1 = tb) ∧ (s'.1 22 = s.1 22 ∧ s'.1 43 = s.1 43) ∧ (s'.2.1 2 = s.2.1 2 ∧ s'.2.1 3 = s.2.1 3) ∧ (∀ n, n ≠ 4 → s'.2.2.1 n = s.2.2.1 n) ∧ (∀ n, n ≠ 5 → s'.2.2.2 n = s.2.2.2 n)
def cpL (m : Nat) (c : Nat → Int32) (x : Nat) : Int32 := if 137 ≤ x ∧ x < 137 + m then c (1440 + x) else c x
section V
variable {s q q0 r lg s0 s1 s3 : RS} {b : Nat → Nat} {e T j f st w a k R d z n : Nat} {tb : Nat → Int64} {nm nmI : Nat → Nat} {B : Nat → Nat}
theorem cpL_s (c : Nat → Int32) {m : Nat} (hm : m < 210) : upd (cpL m c) (137 + m) (cpL m c (1577 + m)) = cpL (m + 1) c := by
  funext x
  by_cases c1 : x = 137 + m
  · rw [c1, upd_at]
    unfold cpL
    rw [if_neg (by omega), if_pos (by omega), show 1577 + m = 1440 + (137 + m) by omega]
  · rw [upd_ne _ _ c1]
    unfold cpL
    by_cases c2 : 137 ≤ x ∧ x < 137 + m
    · rw [if_pos c2, if_pos (by omega)]
    · rw [if_neg c2, if_neg (by omega)]
theorem cpL_0 (c : Nat → Int32) : cpL 0 c = c := by
  funext x
  unfold cpL
  rw [if_neg (by omega)]
theorem r_cpLog (h46 : s.1 46 = nI k) (hk : k ≤ 30) : a_loop (fun (q : Int32 × RS) => X12_log_b82 q.1 q.2) FU ((0 : Int32), s) = some (uA s 4 (cpL (7 * k) (s.2.2.1 4))) := by
  have h0 : ((0 : Int32), s) = (fun i => (nI i, uA s 4 (cpL i (s.2.2.1 4)))) 0 := by
    show _ = (nI 0, uA s 4 (cpL 0 (s.2.2.1 4)))
    rw [cpL_0, uA_self]; rfl
  rw [h0]
  refine lp_f (fun i => (nI i, uA s 4 (cpL i (s.2.2.1 4)))) (7 * k) (by omega) (fun i hi => ?_) ?_
  · dsimp only [X12_log_b82]
    rw [show (uA s 4 (cpL i (s.2.2.1 4))).1 46 = nI k from h46, show (7 : Int32) = nI 7 from rfl, pk_mul, if_neg (nI_ge hi (by omega)), show (1577 : Int32) = nI 1577 from rfl, show (137 : Int32) = nI 137 from rfl, nI_add, nI_add, g_inT (by omega) (by omega), g_inT (by omega) (by omega), nI_clamp (by omega), nI_clamp (by omega), thn_eq, thn_eq, nI_1, uA_uA, uA_at, cpL_s _ (by omega)]
  · dsimp only [X12_log_b82]
    rw [show (uA s 4 (cpL (7 * k) (s.2.2.1 4))).1 46 = nI k from h46, show (7 : Int32) = nI 7 from rfl, pk_mul, if_pos (nI_le (Nat.le_refl _) (by omega))]
theorem tpR_s (h : tpR n s s3) : tpR n (uI (uI s 1 (0 : Int32)) 0 (0 : Int32)) s3 := h
theorem q_log (h : tpR n s s3) (htb : s3.2.2.2 1 = tb) (hT : tbK tb) (hB : blk (s.2.2.1 4) 0 B) (hw : wfB B) (hr1 : r.1 1 = nI (B 0)) (hr0 : r.1 0 = nI (B 1)) (hn : nmR 0 (B 0) nm (s.2.2.2 5) (r.2.2.2 3)) (hn2 : nmR 16 (B 1) nmI (s.2.2.2 5) (r.2.2.2 2)) (b0 b2 N : Nat) (f1 : Nat → Option Nat) (a0 : Int32) :
    (∃ s', pX12_log s a0 = some (m1I, s') ∧ rsame s s' ∧ pX11_logE s0 s3 a0 = some (m1I, uI s0 11 (s'.1 0))) ∨
    (∃ s' q' x4 x5, pX12_log s a0 = some (m1I, s') ∧ pX11_logT s0 s1 r s3 b0 b2 N f1 a0 = some (m1I, uI s0 11 (s'.1 0), q', x4, x5, f1) ∧ txE tb s s' q' ∧ s'.2.2.2 5 = s.2.2.2 5 ∧ ∀ x, x < 1440 → s'.2.2.1 4 x = s.2.2.1 4 x) ∨
    (∃ k R s' q' x4 lg', pX12_log s a0 = some (nI k, s') ∧ pX11_logT s0 s1 r s3 b0 b2 N f1 a0 = some (nI k, uI s0 11 (s'.1 0), q', x4, lg', va_up f1 1 (some (N + 1))) ∧ txE tb s s' q' ∧ s'.2.2.2 5 = s.2.2.2 5 ∧ lgR B lg' (s'.2.2.1 4) R k ∧ s'.2.2.1 4 135 = nI 1 ∧ ∀ x, (x < 135 ∨ 347 ≤ x) → x < 1440 → s'.2.2.1 4 x = s.2.2.1 4 x) := by
  unfold pX12_log
  rw [thn_eq, thn_eq]
  rcases r_notOpen (lim := 300) (tpR_s h) (by omega) a0 with ⟨e, rfl, he, hl⟩ | ⟨g1, g2⟩
  · right
    have n900 := h.2.2.1
    obtain ⟨b, s', q', T, g1, g2, g3, g4, g5, g6, g7, g8, g9, g10⟩ := p_open (lim := 300) (tpR_s h) htb hT he hl (by omega)
    rw [show (300 : Int32) = nI 300 from rfl, g1, ob_s, if_pos rfl, thn_eq]
    have eq' : uI q' 10 (nI 0) = q' := by rw [← g3.2.2.2.2.1, uI_self]
    have hc : s'.2.2 = s.2.2 := g10.2.2
    have hI : inV tb b e T q' r B nm nmI 0 0 0 0 0 (uI s' 46 (0 : Int32)) z0 z0 := by
      refine ⟨?_, g4, rfl, by omega, rfl, rfl, by omega, rfl, by omega, by omega, fun i _ => ⟨rfl, rfl⟩, ?_, ?_, ?_⟩
      · rw [eq']; exact prR_46 g3 _
      · show blk (s'.2.2.1 4) 0 B
        rw [hc]; exact hB
      · show nmR 0 (B 0) nm (s'.2.2.2 5) (r.2.2.2 3)
        rw [hc]; exact hn
      · show nmR 16 (B 1) nmI (s'.2.2.2 5) (r.2.2.2 2)
        rw [hc]; exact hn2
    have hL : ∀ x, LJg r (LPg r 0 true z0 (uI q' 10 (nI 0)) z0) = some x → pX4_readLog z0 s3 r z0 (nI e) = some x := fun x hx => by
      unfold pX4_readLog
      rw [g2, ob_s]
      rw [eq'] at hx
      exact hx
    have s4 : ∀ j, j ≠ 0 → j ≠ 1 → j ≠ 8 → j ≠ 9 → j ≠ 12 → (j < 14 ∨ 18 < j) → j ≠ 46 → (uI s' 46 (0 : Int32)).1 j = s.1 j := fun j j0 j1 j8 j9 j12 j14 j46 => by
      rw [show (uI s' 46 (0 : Int32)).1 j = s'.1 j from if_neg j46, g10.1 j j8 j9 j12 j14, show (uI (uI s 1 (0 : Int32)) 0 (0 : Int32)).1 j = (uI s 1 (0 : Int32)).1 j from if_neg j0, show (uI s 1 (0 : Int32)).1 j = s.1 j from if_neg j1]
    have s8 : (uI s' 46 (0 : Int32)).1 8 = nI 0 := g5
    have u00 : (uI s' 46 (0 : Int32)).1 0 = nI 0 := (g10.1 0 (by decide) (by decide) (by decide) (by decide)).trans rfl
    have sL : ∀ j, j ≠ 19 → (uI s' 46 (0 : Int32)).2.1 j = s.2.1 j := fun j hj => g10.2.1 j hj
    have sR : (uI s' 46 (0 : Int32)).2.2 = s.2.2 := hc
    generalize uI s' 46 (0 : Int32) = u at *
    rcases p_top (p_step hw hr1 hr0 20 0 (by omega) (by omega)) 31 FU 0 0 0 0 u z0 z0 (by omega) (by decide) hI with ⟨m, j', k, R, z', t, s0', lg', k1, k2, k3, k4, k5, k6⟩ | ⟨f, st, j', t, s0', lg', k1, k2, k3, k4, k5⟩
    · right
      obtain ⟨i1, i2, i46, i30, il0, il1, iR, _, _, _, _, _, _, _⟩ := k3
      rw [k1, ob_s]
      unfold X12_log_j50
      rw [r_well i2, ob_s, if_pos rfl, show (135 : Int32) = nI 135 from rfl, show (136 : Int32) = nI 136 from rfl, g_inT (by omega) (by omega), nI_clamp (by omega), thn_eq, g_inT (by omega) (by omega), nI_clamp (by omega), thn_eq]
      have n46 : (uA (uA (uI (uI t 10 (nI 0)) 11 m1I) 4 (upd ((uI (uI t 10 (nI 0)) 11 m1I).2.2.1 4) 135 (1 : Int32))) 4 (upd ((uA (uI (uI t 10 (nI 0)) 11 m1I) 4 (upd ((uI (uI t 10 (nI 0)) 11 m1I).2.2.1 4) 135 (1 : Int32))).2.2.1 4) 136 ((uA (uI (uI t 10 (nI 0)) 11 m1I) 4 (upd ((uI (uI t 10 (nI 0)) 11 m1I).2.2.1 4) 135 (1 : Int32))).1 46))).1 46 = nI k := i46
      have hcx : ∀ x, (uA (uA (uI (uI t 10 (nI 0)) 11 m1I) 4 (upd ((uI (uI t 10 (nI 0)) 11 m1I).2.2.1 4) 135 (1 : Int32))) 4 (upd ((uA (uI (uI t 10 (nI 0)) 11 m1I) 4 (upd ((uI (uI t 10 (nI 0)) 11 m1I).2.2.1 4) 135 (1 : Int32))).2.2.1 4) 136 ((uA (uI (uI t 10 (nI 0)) 11 m1I) 4 (upd ((uI (uI t 10 (nI 0)) 11 m1I).2.2.1 4) 135 (1 : Int32))).1 46))).2.2.1 4 x = if x = 136 then nI k else if x = 135 then nI 1 else t.2.2.1 4 x := fun x => by
        rw [uA_at, uA_at]
        show (if x = 136 then t.1 46 else if x = 135 then (1 : Int32) else t.2.2.1 4 x) = _
        rw [i46]; rfl
      have hi : ∀ j, j ≠ 10 → j ≠ 11 → (uA (uA (uI (uI t 10 (nI 0)) 11 m1I) 4 (upd ((uI (uI t 10 (nI 0)) 11 m1I).2.2.1 4) 135 (1 : Int32))) 4 (upd ((uA (uI (uI t 10 (nI 0)) 11 m1I) 4 (upd ((uI (uI t 10 (nI 0)) 11 m1I).2.2.1 4) 135 (1 : Int32))).2.2.1 4) 136 ((uA (uI (uI t 10 (nI 0)) 11 m1I) 4 (upd ((uI (uI t 10 (nI 0)) 11 m1I).2.2.1 4) 135 (1 : Int32))).1 46))).1 j = t.1 j := fun j h10 h11 => (if_neg h11).trans (if_neg h10)
      have hi10 : (uA (uA (uI (uI t 10 (nI 0)) 11 m1I) 4 (upd ((uI (uI t 10 (nI 0)) 11 m1I).2.2.1 4) 135 (1 : Int32))) 4 (upd ((uA (uI (uI t 10 (nI 0)) 11 m1I) 4 (upd ((uI (uI t 10 (nI 0)) 11 m1I).2.2.1 4) 135 (1 : Int32))).2.2.1 4) 136 ((uA (uI (uI t 10 (nI 0)) 11 m1I) 4 (upd ((uI (uI t 10 (nI 0)) 11 m1I).2.2.1 4) 135 (1 : Int32))).1 46))).1 10 = nI 0 := rfl
      have hi11 : (uA (uA (uI (uI t 10 (nI 0)) 11 m1I) 4 (upd ((uI (uI t 10 (nI 0)) 11 m1I).2.2.1 4) 135 (1 : Int32))) 4 (upd ((uA (uI (uI t 10 (nI 0)) 11 m1I) 4 (upd ((uI (uI t 10 (nI 0)) 11 m1I).2.2.1 4) 135 (1 : Int32))).2.2.1 4) 136 ((uA (uI (uI t 10 (nI 0)) 11 m1I) 4 (upd ((uI (uI t 10 (nI 0)) 11 m1I).2.2.1 4) 135 (1 : Int32))).1 46))).1 11 = m1I := rfl
      have hrest : (uA (uA (uI (uI t 10 (nI 0)) 11 m1I) 4 (upd ((uI (uI t 10 (nI 0)) 11 m1I).2.2.1 4) 135 (1 : Int32))) 4 (upd ((uA (uI (uI t 10 (nI 0)) 11 m1I) 4 (upd ((uI (uI t 10 (nI 0)) 11 m1I).2.2.1 4) 135 (1 : Int32))).2.2.1 4) 136 ((uA (uI (uI t 10 (nI 0)) 11 m1I) 4 (upd ((uI (uI t 10 (nI 0)) 11 m1I).2.2.1 4) 135 (1 : Int32))).1 46))).2.1 = t.2.1 ∧ (∀ n, n ≠ 4 → (uA (uA (uI (uI t 10 (nI 0)) 11 m1I) 4 (upd ((uI (uI t 10 (nI 0)) 11 m1I).2.2.1 4) 135 (1 : Int32))) 4 (upd ((uA (uI (uI t 10 (nI 0)) 11 m1I) 4 (upd ((uI (uI t 10 (nI 0)) 11 m1I).2.2.1 4) 135 (1 : Int32))).2.2.1 4) 136 ((uA (uI (uI t 10 (nI 0)) 11 m1I) 4 (upd ((uI (uI t 10 (nI 0)) 11 m1I).2.2.1 4) 135 (1 : Int32))).1 46))).2.2.1 n = t.2.2.1 n) ∧ (uA (uA (uI (uI t 10 (nI 0)) 11 m1I) 4 (upd ((uI (uI t 10 (nI 0)) 11 m1I).2.2.1 4) 135 (1 : Int32))) 4 (upd ((uA (uI (uI t 10 (nI 0)) 11 m1I) 4 (upd ((uI (uI t 10 (nI 0)) 11 m1I).2.2.1 4) 135 (1 : Int32))).2.2.1 4) 136 ((uA (uI (uI t 10 (nI 0)) 11 m1I) 4 (upd ((uI (uI t 10 (nI 0)) 11 m1I).2.2.1 4) 135 (1 : Int32))).1 46))).2.2.2 = t.2.2.2 := ⟨rfl, fun n hn => (uA_ne _ _ hn).trans (uA_ne _ _ hn), rfl⟩
      generalize uA (uA (uI (uI t 10 (nI 0)) 11 m1I) 4 (upd ((uI (uI t 10 (nI 0)) 11 m1I).2.2.1 4) 135 (1 : Int32))) 4 (upd ((uA (uI (uI t 10 (nI 0)) 11 m1I) 4 (upd ((uI (uI t 10 (nI 0)) 11 m1I).2.2.1 4) 135 (1 : Int32))).2.2.1 4) 136 ((uA (uI (uI t 10 (nI 0)) 11 m1I) 4 (upd ((uI (uI t 10 (nI 0)) 11 m1I).2.2.1 4) 135 (1 : Int32))).1 46)) = t9 at *
      rw [r_cpLog n46 i30, ob_s, show (uA t9 4 (cpL (7 * k) (t9.2.2.1 4))).1 46 = nI k from n46]
      have hc9 : ∀ x, (uA t9 4 (cpL (7 * k) (t9.2.2.1 4))).2.2.1 4 x = if 137 ≤ x ∧ x < 137 + 7 * k then t.2.2.1 4 (1440 + x) else if x = 136 then nI k else if x = 135 then nI 1 else t.2.2.1 4 x := fun x => by
        rw [uA_at]
        unfold cpL
        by_cases c1 : 137 ≤ x ∧ x < 137 + 7 * k
        · rw [if_pos c1, if_pos c1, hcx, if_neg (by omega), if_neg (by omega)]
        · rw [if_neg c1, if_neg c1, hcx]
      have t0 : t.1 0 = nI 0 := (k4.1 0 (by omega) (by omega)).trans u00
      refine ⟨k, R, uA t9 4 (cpL (7 * k) (t9.2.2.1 4)), uI q' 10 (nI j'), s0', lg', rfl, ?_, ⟨⟨?_, g7, ?_, ?_, ?_⟩, ⟨?_, ?_⟩, ⟨?_, ?_⟩, fun n hn => ?_, fun n hn => ?_⟩, ?_, ⟨il1, by omega, i30, ?_, m, 4, by omega, ?_⟩, ?_, fun x hx hx2 => ?_⟩
      · unfold pX11_logT pX11_logh pX11_logm pX11_logt pX11_tell
        rw [if_neg (nI_pos (by omega)), h.2.1, if_neg (nI_nlt he (by omega)), if_pos (show nI e ≤ (300 : Int32) from nI_le (b := 300) hl (by omega)), ob_s, ob_s, hL _ k2, ob_s, show (uI q' 10 (nI j')).1 3 = nI 0 from g8, if_pos (show nI 0 = (0 : Int32) from rfl), thn_eq, ob_s, ob_s, il0, show (uA t9 4 (cpL (7 * k) (t9.2.2.1 4))).1 0 = nI 0 from (hi 0 (by decide) (by decide)).trans t0]; rfl
      · exact (hi 8 (by decide) (by decide)).trans ((k4.1 8 (by omega) (by omega)).trans s8)
      · exact hi10.trans g8.symm
      · exact hi11.trans g9.symm
      · exact g3.2.2.2.1.1
      · exact (hi 22 (by decide) (by decide)).trans ((k4.1 22 (by omega) (by omega)).trans (s4 22 (by decide) (by decide) (by decide) (by decide) (by decide) (by decide) (by decide)))
      · exact (hi 43 (by decide) (by decide)).trans ((k4.1 43 (by omega) (by omega)).trans (s4 43 (by decide) (by decide) (by decide) (by decide) (by decide) (by decide) (by decide)))
      · show t9.2.1 2 = _
        rw [hrest.1, k4.2.1 2 (by decide), sL 2 (by decide)]
      · show t9.2.1 3 = _
        rw [hrest.1, k4.2.1 3 (by decide), sL 3 (by decide)]
      · rw [uA_ne _ _ hn, hrest.2.1 n hn, k4.2.2.1 n hn, sR]
      · show t9.2.2.2 n = _
        rw [hrest.2.2, k4.2.2.2.1, sR]
      · show t9.2.2.2 5 = _
        rw [hrest.2.2, k4.2.2.2.1, sR]
      · rw [hc9, if_neg (by omega), if_pos rfl]
      · refine sg_cg (c := fun x => t.2.2.1 4 (1440 + x)) m 4 0 R 0 k (fun _ _ _ _ => rfl) (fun x x1 x2 => ?_) k6
        rw [hc9, if_pos (by omega)]
      · rw [hc9, if_neg (by omega), if_neg (by omega), if_pos rfl]
      · rw [hc9, if_neg (by omega), if_neg (by omega), if_neg (by omega), k4.2.2.2.2 x (by omega), sR]
    · left
      rw [k3, ob_s]
      unfold X12_log_j50
      rw [r_ill k1 k2, ob_s, if_neg Bool.false_ne_true]
      have hf : ¬ nI f = (0 : Int32) := fun x => by have := (nI_eq (b := 0) (by have := k1.2.2; omega) (by omega)).mp x; have := k1.2.1; omega
      refine ⟨uI (uI (uI t 10 (nI f)) 11 (nI st)) 0 (10 : Int32), fltX f st (uI q' 10 (nI j')), s0', lg', rfl, ?_, ⟨⟨?_, g7, rfl, rfl, g3.2.2.2.1.1⟩, ⟨?_, ?_⟩, ⟨?_, ?_⟩, fun n hn => ?_, fun n hn => ?_⟩, ?_, fun x hx => ?_⟩
      · unfold pX11_logT pX11_logh pX11_logm pX11_logt pX11_refuse
        rw [if_neg (nI_pos (by omega)), h.2.1, if_neg (nI_nlt he (by omega)), if_pos (show nI e ≤ (300 : Int32) from nI_le (b := 300) hl (by omega)), ob_s, ob_s, hL _ k5, ob_s, show (fltX f st (uI q' 10 (nI j'))).1 3 = nI f from rfl, if_neg hf, thn_eq, ob_s, ob_s]; rfl
      · exact (k4.1 8 (by omega) (by omega)).trans s8
      · exact (k4.1 22 (by omega) (by omega)).trans (s4 22 (by decide) (by decide) (by decide) (by decide) (by decide) (by decide) (by decide))
      · exact (k4.1 43 (by omega) (by omega)).trans (s4 43 (by decide) (by decide) (by decide) (by decide) (by decide) (by decide) (by decide))
      · exact (k4.2.1 2 (by decide)).trans (sL 2 (by decide))
      · exact (k4.2.1 3 (by decide)).trans (sL 3 (by decide))
      · show t.2.2.1 n = _
        rw [k4.2.2.1 n hn, sR]
      · show t.2.2.2 n = _
        rw [k4.2.2.2.1, sR]
      · show t.2.2.2 5 = _
        rw [k4.2.2.2.1, sR]
      · show t.2.2.1 4 x = _
        rw [k4.2.2.2.2 x (by omega), sR]
  · left
    rw [show (300 : Int32) = nI 300 from rfl, g1, ob_s, if_neg Bool.false_ne_true]
    refine ⟨_, rfl, ⟨⟨rfl, rfl, rfl, rfl, rfl⟩, ⟨rfl, rfl⟩, ⟨rfl, rfl, rfl, rfl, rfl⟩, rfl, rfl⟩, ?_⟩
    unfold pX11_logE X11_logE_j22 pX11_refuse
    rw [thn_eq, ob_s]
    by_cases c1 : a0 < 0
    · rw [if_pos c1]; rfl
    · rw [if_neg c1]
      by_cases c2 : s3.1 2 < a0
      · rw [if_pos c2]; rfl
      · rw [if_neg c2]
        by_cases c3 : a0 ≤ (300 : Int32)
        · exfalso
          rcases g2 with g | g | g
          · exact c1 g
          · exact g ((le_nlt _ _).mpr c2)
          · exact g c3
        · rw [if_neg c3]; rfl
end V
