/-! BOOKS: book, both ways -/
def clB (m : Nat) (c : Nat → Int32) (x : Nat) : Int32 := if 1440 ≤ x ∧ x < 1440 + m then nI 0 else c x
def cp2 (m : Nat) (c : Nat → Int32) (x : Nat) : Int32 := if x < m then c (1440 + x) else c x
def cw2 (m : Nat) (c : Nat → Int64) (x : Nat) : Int64 := if x < m then c (80 + x) else c x
section V
variable {s q q0 r s0 s1 s2 : RS} {e n : Nat} {tb : Nat → Int64}
theorem r_clB (s : RS) : a_loop (fun (q : Int32 × RS) => X12_book_b25 q.1 q.2) FU ((0 : Int32), s) = some (uA s 4 (clB 360 (s.2.2.1 4))) := by
  have h0 : ((0 : Int32), s) = (fun i => (nI i, uA s 4 (clB i (s.2.2.1 4)))) 0 := by
    show _ = (nI 0, uA s 4 (clB 0 (s.2.2.1 4)))
    rw [show clB 0 (s.2.2.1 4) = s.2.2.1 4 by funext x; unfold clB; rw [if_neg (by omega)], uA_self]; rfl
  rw [h0]
  refine lp_f (fun i => (nI i, uA s 4 (clB i (s.2.2.1 4)))) 360 (by omega) (fun i hi => ?_) ?_
  · dsimp only [X12_book_b25]
    rw [show (360 : Int32) = nI 360 from rfl, if_neg (nI_ge hi (by omega)), show (1440 : Int32) = nI 1440 from rfl, nI_add, g_inT (by omega) (by omega), nI_clamp (by omega), thn_eq, thn_eq, nI_1, uA_uA, uA_at]
    congr 4
    funext x
    by_cases c : x = 1440 + i
    · rw [c, upd_at]; unfold clB; rw [if_pos (by omega)]; rfl
    · rw [upd_ne _ _ c]
      unfold clB
      by_cases c2 : 1440 ≤ x ∧ x < 1440 + i
      · rw [if_pos c2, if_pos (by omega)]
      · rw [if_neg c2, if_neg (by omega)]
  · dsimp only [X12_book_b25]
    rw [if_pos (show (360 : Int32) ≤ nI 360 by decide)]
theorem r_cp2 (s : RS) : a_loop (fun (q : Int32 × RS) => X12_book_b117 q.1 q.2) FU ((0 : Int32), s) = some (uA s 4 (cp2 360 (s.2.2.1 4))) := by
  have h0 : ((0 : Int32), s) = (fun i => (nI i, uA s 4 (cp2 i (s.2.2.1 4)))) 0 := by
    show _ = (nI 0, uA s 4 (cp2 0 (s.2.2.1 4)))
    rw [show cp2 0 (s.2.2.1 4) = s.2.2.1 4 by funext x; unfold cp2; rw [if_neg (by omega)], uA_self]; rfl
  rw [h0]
  refine lp_f (fun i => (nI i, uA s 4 (cp2 i (s.2.2.1 4)))) 360 (by omega) (fun i hi => ?_) ?_
  · dsimp only [X12_book_b117]
    rw [show (360 : Int32) = nI 360 from rfl, if_neg (nI_ge hi (by omega)), show (1440 : Int32) = nI 1440 from rfl, nI_add, g_inT (by omega) (by omega), g_inT (by omega) (by omega), nI_clamp (by omega), nI_clamp (by omega), thn_eq, thn_eq, nI_1, uA_uA, uA_at]
    congr 4
    funext x
    by_cases c : x = i
    · rw [c, upd_at]; unfold cp2; rw [if_neg (by omega), if_pos (by omega)]
    · rw [upd_ne _ _ c]
      unfold cp2
      by_cases c2 : x < i
      · rw [if_pos c2, if_pos (by omega)]
      · rw [if_neg c2, if_neg (by omega)]
  · dsimp only [X12_book_b117]
    rw [if_pos (show (360 : Int32) ≤ nI 360 by decide)]
theorem r_cw2 (s : RS) : a_loop (fun (q : Int32 × RS) => X12_book_b148 q.1 q.2) FU ((0 : Int32), s) = some (uB s 5 (cw2 20 (s.2.2.2 5))) := by
  have h0 : ((0 : Int32), s) = (fun i => (nI i, uB s 5 (cw2 i (s.2.2.2 5)))) 0 := by
    show _ = (nI 0, uB s 5 (cw2 0 (s.2.2.2 5)))
    rw [show cw2 0 (s.2.2.2 5) = s.2.2.2 5 by funext x; unfold cw2; rw [if_neg (by omega)], uB_self]; rfl
  rw [h0]
  refine lp_f (fun i => (nI i, uB s 5 (cw2 i (s.2.2.2 5)))) 20 (by omega) (fun i hi => ?_) ?_
  · dsimp only [X12_book_b148]
    rw [show (20 : Int32) = nI 20 from rfl, if_neg (nI_ge hi (by omega)), show (80 : Int32) = nI 80 from rfl, nI_add, g_inT (by omega) (by omega), g_inT (by omega) (by omega), nI_clamp (by omega), nI_clamp (by omega), thn_eq, thn_eq, nI_1, uB_uB, uB_at]
    congr 4
    funext x
    by_cases c : x = i
    · rw [c, updL_at]; unfold cw2; rw [if_neg (by omega), if_pos (by omega)]
    · rw [updL_ne _ _ c]
      unfold cw2
      by_cases c2 : x < i
      · rw [if_pos c2, if_pos (by omega)]
      · rw [if_neg c2, if_neg (by omega)]
  · dsimp only [X12_book_b148]
    rw [if_pos (show (20 : Int32) ≤ nI 20 by decide)]
/-- a new start: nothing is had, no order -/
theorem x_beginN (s2 r : RS) : ∃ s2', pX7_begin s2 r = some s2' ∧ s2'.1 4 = nI 0 ∧ (∀ j, j ≠ 4 → s2'.1 j = s2.1 j) ∧ (∀ i, i < 4 → s2'.2.2.1 2 i = nI 0) ∧ (∀ m, m ≠ 2 → s2'.2.2.1 m = s2.2.2.1 m) ∧ s2'.2.1 = s2.2.1 ∧ s2'.2.2.2 = s2.2.2.2 := by
  unfold pX7_begin
  rw [thn_eq]
  have hl : a_loop (fun (q : Int32 × RS) => X7_begin_b17 q.1 q.2 r) FU ((0 : Int32), uI s2 4 (0 : Int32)) = some (uA (uI s2 4 (0 : Int32)) 2 (fun x => if x < 4 then nI 0 else s2.2.2.1 2 x)) := by
    have h0 : ((0 : Int32), uI s2 4 (0 : Int32)) = (fun i => (nI i, uA (uI s2 4 (0 : Int32)) 2 (fun x => if x < i then nI 0 else s2.2.2.1 2 x))) 0 := by
      show _ = (nI 0, uA (uI s2 4 (0 : Int32)) 2 (fun x => if x < 0 then nI 0 else s2.2.2.1 2 x))
      rw [show (fun x => if x < 0 then nI 0 else s2.2.2.1 2 x) = (uI s2 4 (0 : Int32)).2.2.1 2 by funext x; rw [if_neg (by omega)]; rfl, uA_self]; rfl
    rw [h0]
    refine lp_f (fun i => (nI i, uA (uI s2 4 (0 : Int32)) 2 (fun x => if x < i then nI 0 else s2.2.2.1 2 x))) 4 (by omega) (fun i hi => ?_) ?_
    · dsimp only [X7_begin_b17]
      rw [show (4 : Int32) = nI 4 from rfl, if_neg (nI_ge hi (by omega)), g_inT (by omega) (by omega), nI_clamp (by omega), thn_eq, thn_eq, nI_1, uA_uA, uA_at]
      congr 4
      funext x
      by_cases c : x = i
      · rw [c, upd_at, if_pos (by omega)]; rfl
      · rw [upd_ne _ _ c]
        by_cases c2 : x < i
        · rw [if_pos c2, if_pos (by omega)]
        · rw [if_neg c2, if_neg (by omega)]
    · dsimp only [X7_begin_b17]
      rw [if_pos (show (4 : Int32) ≤ nI 4 by decide)]
  rw [hl, ob_s]
  refine ⟨_, rfl, rfl, fun j hj => if_neg hj, fun i hi => ?_, fun m hm => uA_ne _ _ hm, rfl, rfl⟩
  rw [uA_at, if_pos hi]
theorem q_book (h : tpR n s s1) (htb : s1.2.2.2 1 = tb) (hT : tbK tb) (b0 N : Nat) (f2 : Nat → Option Nat) (a0 : Int32) :
    (∃ s', pX12_book s a0 = some (m1I, s') ∧ rsame s s' ∧ pX11_bookE s0 s1 a0 = some (m1I, uI s0 11 (s'.1 0))) ∨
    (∃ s' q' x5, pX12_book s a0 = some (m1I, s') ∧ pX11_bookT s0 s1 s2 b0 N f2 a0 = some (m1I, uI s0 11 (s'.1 0), q', s2, x5, f2) ∧ txE tb s s' q' ∧ (∀ x, x < 80 → s'.2.2.2 5 x = s.2.2.2 5 x) ∧ ∀ x, x < 1440 → s'.2.2.1 4 x = s.2.2.1 4 x) ∨
    (∃ B nm nmI s' q' s2' r', pX12_book s a0 = some (nI (B 0), s') ∧ pX11_bookT s0 s1 s2 b0 N f2 a0 = some (nI (B 0), uI s0 11 (s'.1 0), q', s2', r', va_up (va_up f2 0 (some (N + 1))) 1 none) ∧ txE tb s s' q' ∧ wfB B ∧ blk (s'.2.2.1 4) 0 B ∧ bkR B r' ∧ nmR 0 (B 0) nm (s'.2.2.2 5) (r'.2.2.2 3) ∧ nmR 16 (B 1) nmI (s'.2.2.2 5) (r'.2.2.2 2) ∧ (∀ i, i < 4 → s'.2.2.1 4 (114 + i) = nI 0 ∧ s2'.2.2.1 2 i = nI 0) ∧ s'.2.2.1 4 118 = nI 0 ∧ s2'.1 4 = nI 0 ∧ s'.2.2.1 4 135 = nI 0 ∧ (∀ x, 360 ≤ x → x < 1440 → s'.2.2.1 4 x = s.2.2.1 4 x) ∧ (∀ x, 20 ≤ x → x < 80 → s'.2.2.2 5 x = s.2.2.2 5 x)) := by
  have n900 := h.2.2.1
  unfold pX12_book
  rw [thn_eq, thn_eq]
  rcases r_notOpen (lim := 900) (tpR_s h) (by omega) a0 with ⟨e, rfl, he, hl⟩ | ⟨g1, g2⟩
  · right
    obtain ⟨b, s', q', T, g1, g2, g3, g4, g5, g6, g7, g8, g9, g10⟩ := p_open (lim := 900) (tpR_s h) htb hT he hl (by omega)
    rw [show (900 : Int32) = nI 900 from rfl, g1, ob_s, if_pos rfl, r_clB, ob_s]
    have eq' : uI q' 10 (nI 0) = q' := by rw [← g3.2.2.2.2.1, uI_self]
    have hc : s'.2.2 = s.2.2 := g10.2.2
    have s4 : ∀ j, j ≠ 0 → j ≠ 1 → j ≠ 8 → j ≠ 9 → j ≠ 12 → (j < 14 ∨ 18 < j) → s'.1 j = s.1 j := fun j j0 j1 j8 j9 j12 j14 => by
      rw [g10.1 j j8 j9 j12 j14, show (uI (uI s 1 (0 : Int32)) 0 (0 : Int32)).1 j = (uI s 1 (0 : Int32)).1 j from if_neg j0, show (uI s 1 (0 : Int32)).1 j = s.1 j from if_neg j1]
    have u00 : s'.1 0 = nI 0 := (g10.1 0 (by decide) (by decide) (by decide) (by decide)).trans rfl
    have u1 : (uA s' 4 (clB 360 (s'.2.2.1 4))).1 = s'.1 := rfl
    have u2 : (uA s' 4 (clB 360 (s'.2.2.1 4))).2.1 = s'.2.1 := rfl
    have u3 : ∀ m, m ≠ 4 → (uA s' 4 (clB 360 (s'.2.2.1 4))).2.2.1 m = s.2.2.1 m := fun m hm => by rw [uA_ne _ _ hm, hc]
    have u4 : (uA s' 4 (clB 360 (s'.2.2.1 4))).2.2.2 = s.2.2.2 := by show s'.2.2.2 = _; rw [hc]
    have u5 : ∀ x, (uA s' 4 (clB 360 (s'.2.2.1 4))).2.2.1 4 x = if 1440 ≤ x ∧ x < 1440 + 360 then nI 0 else s.2.2.1 4 x := fun x => by rw [uA_at, clB, hc]
    have hV : bV tb b e T q' (fun _ => 0) (fun _ => 0) (fun _ => 0) 0 (uA s' 4 (clB 360 (s'.2.2.1 4))) z0 := by
      refine ⟨by rw [eq']; exact prR_4 g3 _, g4, ⟨fun j hj => by rw [u5, if_pos (by omega)], fun _ => by show 0 < 65536; omega⟩, ⟨by show 0 ≤ 16; omega, by show 0 ≤ 4; omega, fun k hk => absurd hk (Nat.not_lt_zero _)⟩, ⟨rfl, rfl, rfl, fun k hk => absurd hk (Nat.not_lt_zero _)⟩, fun k hk => absurd hk (Nat.not_lt_zero _), fun k hk => absurd hk (Nat.not_lt_zero _), fun i _ _ => ⟨rfl, rfl, rfl⟩⟩
    generalize uA s' 4 (clB 360 (s'.2.2.1 4)) = u at *
    have hL : ∀ x, LBk z0 0 true (uI q' 10 (nI 0)) z0 = some x → pX1_readBook z0 s1 z0 (nI e) = some x := fun x hx => by
      unfold pX1_readBook
      rw [g2, ob_s]
      rw [eq'] at hx
      have hx' : a_loop (fun (q : Bool × Int32 × RS × RS) => X1_readBook_b12 q.1 q.2.1 z0 q.2.2.1 q.2.2.2) FU (true, (0 : Int32), q', z0) = some x := hx
      rw [hx']; rfl
    have hh : pX11_bookh s0 s1 (nI e) = some (nI e) := by
      unfold pX11_bookh
      rw [if_neg (nI_pos (by omega)), h.2.1, if_pos (nI_le he (by omega))]
    rcases p_parts (s0 := z0) 21 FU 0 0 (fun _ => 0) (fun _ => 0) (fun _ => 0) u z0 (by omega) (by decide) (by omega) hV with ⟨B, nm, nmI, j', t, r', k1, k2, k3, k4⟩ | ⟨f, st, j', t, r', k1, k2, k3, k4, k5⟩
    · right
      obtain ⟨i1, i2, i3, i4, i5, i6, i7, i8⟩ := k3
      have h16 := i4.1
      have h14 := i4.2.1
      rw [k1, ob_s]
      unfold X12_book_j106
      rw [r_well i2, ob_s, if_pos rfl, r_cp2, ob_s, r_cw2, ob_s]
      have w1 : ∀ x, (uB (uA (uI (uI t 10 (nI 0)) 11 m1I) 4 (cp2 360 ((uI (uI t 10 (nI 0)) 11 m1I).2.2.1 4))) 5 (cw2 20 ((uA (uI (uI t 10 (nI 0)) 11 m1I) 4 (cp2 360 ((uI (uI t 10 (nI 0)) 11 m1I).2.2.1 4))).2.2.2 5))).2.2.1 4 x = if x < 360 then t.2.2.1 4 (1440 + x) else t.2.2.1 4 x := fun x => by
        show (uA (uI (uI t 10 (nI 0)) 11 m1I) 4 (cp2 360 ((uI (uI t 10 (nI 0)) 11 m1I).2.2.1 4))).2.2.1 4 x = _
        rw [uA_at]; rfl
      have w2 : ∀ x, (uB (uA (uI (uI t 10 (nI 0)) 11 m1I) 4 (cp2 360 ((uI (uI t 10 (nI 0)) 11 m1I).2.2.1 4))) 5 (cw2 20 ((uA (uI (uI t 10 (nI 0)) 11 m1I) 4 (cp2 360 ((uI (uI t 10 (nI 0)) 11 m1I).2.2.1 4))).2.2.2 5))).2.2.2 5 x = if x < 20 then t.2.2.2 5 (80 + x) else t.2.2.2 5 x := fun x => by
        rw [uB_at]; rfl
      have w3 : ∀ m, m ≠ 4 → (uB (uA (uI (uI t 10 (nI 0)) 11 m1I) 4 (cp2 360 ((uI (uI t 10 (nI 0)) 11 m1I).2.2.1 4))) 5 (cw2 20 ((uA (uI (uI t 10 (nI 0)) 11 m1I) 4 (cp2 360 ((uI (uI t 10 (nI 0)) 11 m1I).2.2.1 4))).2.2.2 5))).2.2.1 m = t.2.2.1 m := fun m hm => by
        show (uA (uI (uI t 10 (nI 0)) 11 m1I) 4 (cp2 360 ((uI (uI t 10 (nI 0)) 11 m1I).2.2.1 4))).2.2.1 m = _
        rw [uA_ne _ _ hm]; rfl
      have w4 : ∀ m, m ≠ 5 → (uB (uA (uI (uI t 10 (nI 0)) 11 m1I) 4 (cp2 360 ((uI (uI t 10 (nI 0)) 11 m1I).2.2.1 4))) 5 (cw2 20 ((uA (uI (uI t 10 (nI 0)) 11 m1I) 4 (cp2 360 ((uI (uI t 10 (nI 0)) 11 m1I).2.2.1 4))).2.2.2 5))).2.2.2 m = t.2.2.2 m := fun m hm => by rw [uB_ne _ _ hm]; rfl
      have w5 : ∀ m, m ≠ 10 → m ≠ 11 → (uB (uA (uI (uI t 10 (nI 0)) 11 m1I) 4 (cp2 360 ((uI (uI t 10 (nI 0)) 11 m1I).2.2.1 4))) 5 (cw2 20 ((uA (uI (uI t 10 (nI 0)) 11 m1I) 4 (cp2 360 ((uI (uI t 10 (nI 0)) 11 m1I).2.2.1 4))).2.2.2 5))).1 m = t.1 m := fun m m10 m11 => (if_neg m11).trans (if_neg m10)
      have w6 : (uB (uA (uI (uI t 10 (nI 0)) 11 m1I) 4 (cp2 360 ((uI (uI t 10 (nI 0)) 11 m1I).2.2.1 4))) 5 (cw2 20 ((uA (uI (uI t 10 (nI 0)) 11 m1I) 4 (cp2 360 ((uI (uI t 10 (nI 0)) 11 m1I).2.2.1 4))).2.2.2 5))).1 10 = nI 0 := rfl
      have w7 : (uB (uA (uI (uI t 10 (nI 0)) 11 m1I) 4 (cp2 360 ((uI (uI t 10 (nI 0)) 11 m1I).2.2.1 4))) 5 (cw2 20 ((uA (uI (uI t 10 (nI 0)) 11 m1I) 4 (cp2 360 ((uI (uI t 10 (nI 0)) 11 m1I).2.2.1 4))).2.2.2 5))).1 11 = m1I := rfl
      have w8 : (uB (uA (uI (uI t 10 (nI 0)) 11 m1I) 4 (cp2 360 ((uI (uI t 10 (nI 0)) 11 m1I).2.2.1 4))) 5 (cw2 20 ((uA (uI (uI t 10 (nI 0)) 11 m1I) 4 (cp2 360 ((uI (uI t 10 (nI 0)) 11 m1I).2.2.1 4))).2.2.2 5))).2.1 = t.2.1 := rfl
      generalize uB (uA (uI (uI t 10 (nI 0)) 11 m1I) 4 (cp2 360 ((uI (uI t 10 (nI 0)) 11 m1I).2.2.1 4))) 5 (cw2 20 ((uA (uI (uI t 10 (nI 0)) 11 m1I) 4 (cp2 360 ((uI (uI t 10 (nI 0)) 11 m1I).2.2.1 4))).2.2.2 5)) = v at *
      have c0 : v.2.2.1 4 0 = nI (B 0) := by rw [w1, if_pos (by omega)]; exact i3.1 0 (by omega)
      rw [show (0 : Int32) = nI 0 from rfl, g_inT (by omega) (by omega), nI_clamp (by omega), c0]
      obtain ⟨s2', y1, y2, y3, y4, y5, y6, y7⟩ := x_beginN s2 r'
      have z1 : ∀ x, 114 ≤ x → x < 360 → v.2.2.1 4 x = nI 0 := fun x h1 h2 => by
        rw [w1, if_pos h2, k4.2.2.2.1 _ (by omega), u5, if_pos (by omega)]
      refine ⟨B, nm, nmI, v, uI q' 10 (nI j'), s2', r', rfl, ?_, ⟨⟨?_, g7, ?_, ?_, ?_⟩, ⟨?_, ?_⟩, ⟨?_, ?_⟩, fun m hm => ?_, fun m hm => ?_⟩, i4, ⟨fun j hj => ?_, i3.2⟩, i5, fun k hk => ?_, fun k hk => ?_, fun i hi => ⟨z1 _ (by omega) (by omega), y4 i hi⟩, z1 _ (by omega) (by omega), y2, z1 _ (by omega) (by omega), fun x h1 h2 => ?_, fun x h1 h2 => ?_⟩
      · unfold pX11_bookT pX11_bookm pX11_bookt pX11_tell
        rw [hh, ob_s, ob_s, hL _ k2, ob_s, show (uI q' 10 (nI j')).1 3 = nI 0 from g8, if_pos (show nI 0 = (0 : Int32) from rfl), y1, ob_s, thn_eq, ob_s, ob_s, i5.2.1, w5 0 (by decide) (by decide), k4.1 0 (by omega), u1, u00]; rfl
      · rw [w5 8 (by decide) (by decide), k4.1 8 (by omega), u1]; exact g5
      · exact w6.trans g8.symm
      · exact w7.trans g9.symm
      · exact g3.2.2.2.1.1
      · rw [w5 22 (by decide) (by decide), k4.1 22 (by omega), u1]; exact s4 22 (by decide) (by decide) (by decide) (by decide) (by decide) (by decide)
      · rw [w5 43 (by decide) (by decide), k4.1 43 (by omega), u1]; exact s4 43 (by decide) (by decide) (by decide) (by decide) (by decide) (by decide)
      · rw [w8, k4.2.1 2 (by decide), u2]; exact g10.2.1 2 (by decide)
      · rw [w8, k4.2.1 3 (by decide), u2]; exact g10.2.1 3 (by decide)
      · rw [w3 m hm, k4.2.2.1 m hm, u3 m hm]
      · rw [w4 m hm, k4.2.2.2.2.1 m hm, u4]
      · rw [w1, if_pos (by omega)]
        have := i3.1 j hj
        rw [show 1440 + (0 + j) = 1440 + j by omega]; exact this
      · have := i6 k hk
        rw [w2, if_pos (by omega), show 80 + (0 + k) = 80 + k by omega]; exact this
      · have := i7 k hk
        rw [w2, if_pos (by omega), show 80 + (16 + k) = 96 + k by omega]; exact this
      · rw [w1, if_neg (by omega), k4.2.2.2.1 x (by omega), u5, if_neg (by omega)]
      · rw [w2, if_neg (by omega), k4.2.2.2.2.2 x h2, u4]
    · left
      rw [k3, ob_s]
      unfold X12_book_j106
      rw [r_ill k1 k2, ob_s, if_neg Bool.false_ne_true]
      have hf : ¬ nI f = (0 : Int32) := fun x => by have := (nI_eq (b := 0) (by have := k1.2.2; omega) (by omega)).mp x; have := k1.2.1; omega
      refine ⟨uI (uI (uI t 10 (nI f)) 11 (nI st)) 0 (10 : Int32), fltX f st (uI q' 10 (nI j')), r', rfl, ?_, ⟨⟨?_, g7, rfl, rfl, g3.2.2.2.1.1⟩, ⟨?_, ?_⟩, ⟨?_, ?_⟩, fun m hm => ?_, fun m hm => ?_⟩, fun x hx => ?_, fun x hx => ?_⟩
      · unfold pX11_bookT pX11_bookm pX11_bookt pX11_refuse
        rw [hh, ob_s, ob_s, hL _ k5, ob_s, show (fltX f st (uI q' 10 (nI j'))).1 3 = nI f from rfl, if_neg hf, thn_eq, ob_s, ob_s]; rfl
      · exact (k4.1 8 (by omega)).trans ((congrFun u1 8).trans g5)
      · exact (k4.1 22 (by omega)).trans ((congrFun u1 22).trans (s4 22 (by decide) (by decide) (by decide) (by decide) (by decide) (by decide)))
      · exact (k4.1 43 (by omega)).trans ((congrFun u1 43).trans (s4 43 (by decide) (by decide) (by decide) (by decide) (by decide) (by decide)))
      · exact (k4.2.1 2 (by decide)).trans ((congrFun u2 2).trans (g10.2.1 2 (by decide)))
      · exact (k4.2.1 3 (by decide)).trans ((congrFun u2 3).trans (g10.2.1 3 (by decide)))
      · show t.2.2.1 m = _
        rw [k4.2.2.1 m hm, u3 m hm]
      · show t.2.2.2 m = _
        rw [k4.2.2.2.2.1 m hm, u4]
      · show t.2.2.2 5 x = _
        rw [k4.2.2.2.2.2 x hx, u4]
      · show t.2.2.1 4 x = _
        rw [k4.2.2.2.1 x (by omega), u5, if_neg (by omega)]
  · left
    rw [show (900 : Int32) = nI 900 from rfl, g1, ob_s, if_neg Bool.false_ne_true]
    refine ⟨_, rfl, ⟨⟨rfl, rfl, rfl, rfl, rfl⟩, ⟨rfl, rfl⟩, ⟨rfl, rfl, rfl, rfl, rfl⟩, rfl, rfl⟩, ?_⟩
    unfold pX11_bookE X11_bookE_j15 pX11_refuse
    rw [thn_eq, ob_s]
    by_cases c1 : a0 < 0
    · rw [if_pos c1]; rfl
    · rw [if_neg c1]
      by_cases c2 : a0 ≤ s1.1 2
      · exfalso
        rcases g2 with g | g | g
        · exact c1 g
        · exact g c2
        · rw [h.2.1] at c2
          rw [Int32.le_iff_toInt_le, nI_toInt (by omega)] at g c2
          omega
      · rw [if_neg c2]; rfl
end V
