/-! AGREED: the voyages one after another -/
def cpG (n : Nat) (H : Nat → Nat) (q : RS) : Nat → RS
  | 0 => q
  | k + 1 => uA (cpG n H q k) n (upd ((cpG n H q k).2.2.1 n) k (nI (H k)))
theorem cpG_1 (n : Nat) (H : Nat → Nat) (q : RS) : ∀ k, ∀ j, j < k → (cpG n H q k).2.2.1 n j = nI (H j)
  | 0, j, h => absurd h (Nat.not_lt_zero _)
  | k + 1, j, h => by
    show (uA (cpG n H q k) n (upd ((cpG n H q k).2.2.1 n) k (nI (H k)))).2.2.1 n j = _
    rw [uA_at]
    by_cases e : j = k
    · rw [e, upd_at]
    · rw [upd_ne _ _ e]; exact cpG_1 n H q k j (by omega)
theorem cpG_2 (n : Nat) (H : Nat → Nat) (q : RS) : ∀ k, (cpG n H q k).1 = q.1 ∧ (cpG n H q k).2.1 = q.2.1 ∧ (cpG n H q k).2.2.2 = q.2.2.2 ∧ ∀ m, m ≠ n → (cpG n H q k).2.2.1 m = q.2.2.1 m
  | 0 => ⟨rfl, rfl, rfl, fun _ _ => rfl⟩
  | k + 1 => by
    have ih := cpG_2 n H q k
    exact ⟨ih.1, ih.2.1, ih.2.2.1, fun m hm => (uA_ne _ _ hm).trans (ih.2.2.2 m hm)⟩
def cpB (H : Nat → Nat) (q : RS) : Nat → RS
  | 0 => q
  | k + 1 => uA (cpB H q k) 4 (upd ((cpB H q k).2.2.1 4) (114 + k) (nI (H k)))
theorem cpB_1 (H : Nat → Nat) (q : RS) : ∀ k j, (cpB H q k).2.2.1 4 j = if 114 ≤ j ∧ j < 114 + k then nI (H (j - 114)) else q.2.2.1 4 j
  | 0, j => by rw [if_neg (by omega)]; rfl
  | k + 1, j => by
    show (uA (cpB H q k) 4 (upd ((cpB H q k).2.2.1 4) (114 + k) (nI (H k)))).2.2.1 4 j = _
    rw [uA_at]
    by_cases e : j = 114 + k
    · rw [e, upd_at, if_pos (by omega), show 114 + k - 114 = k by omega]
    · rw [upd_ne _ _ e, cpB_1 H q k j]
      by_cases c : 114 ≤ j ∧ j < 114 + k
      · rw [if_pos c, if_pos (by omega)]
      · rw [if_neg c, if_neg (by omega)]
theorem cpB_2 (H : Nat → Nat) (q : RS) : ∀ k, (cpB H q k).1 = q.1 ∧ (cpB H q k).2.1 = q.2.1 ∧ (cpB H q k).2.2.2 = q.2.2.2 ∧ ∀ m, m ≠ 4 → (cpB H q k).2.2.1 m = q.2.2.1 m
  | 0 => ⟨rfl, rfl, rfl, fun _ _ => rfl⟩
  | k + 1 => by
    have ih := cpB_2 H q k
    exact ⟨ih.1, ih.2.1, ih.2.2.1, fun m hm => (uA_ne _ _ hm).trans (ih.2.2.2 m hm)⟩
def agJ (s2 : RS) (H : Nat → Nat) (sR : RS) : Prop := (∀ j, (j < 35 ∨ 45 ≤ j ∨ j = 43) → sR.1 j = s2.1 j) ∧ sR.2.1 = s2.2.1 ∧ sR.2.2.2 = s2.2.2.2 ∧ (∀ n, (n < 4 ∨ (4 < n ∧ n < 10) ∨ n = 14 ∨ 15 < n) → sR.2.2.1 n = s2.2.2.1 n) ∧ sR.2.2.1 4 = s2.2.2.1 4 ∧ ∀ i, i < 4 → sR.2.2.1 15 i = nI (H i)
section V
variable {s q r lg s0 s1 s2 s4 : RS} {B : Nat → Nat} {v : VS} {c : Nat → Int32} {H : Nat → Nat} {R T b0 b2 b3 : Nat} {f4 : Nat → Option Nat}
theorem r_back {sR : RS} (h15 : ∀ i, i < 4 → sR.2.2.1 15 i = nI (H i)) (i1 i2 i3 i5 : Int32) : a_loop (fun (y : Int32 × RS) => X12_agreed_b179 i1 i2 i3 i5 y.1 y.2) FU ((0 : Int32), sR) = some (cpB H sR 4) := by
  refine lp_f (body := fun (y : Int32 × RS) => X12_agreed_b179 i1 i2 i3 i5 y.1 y.2) (fun k => (nI k, cpB H sR k)) 4 (by decide) (fun k hk => ?_) ?_
  · dsimp only [X12_agreed_b179]
    rw [show (4 : Int32) = nI 4 from rfl, if_neg (nI_ge hk (by omega)), g_inT hk (by omega), g114 hk, c114 hk, nI_clamp (by omega), (cpB_2 H sR k).2.2.2 15 (by decide), h15 k hk, thn_eq, thn_eq, nI_1]; rfl
  · dsimp only [X12_agreed_b179]
    rw [if_pos (by decide)]
theorem ag_round (hB : blk (s2.2.2.1 4) 0 B) (hw : wfB B) (hR : bkR B r) (hH : hsR (s2.2.2.1 4) H) (hN : hsC s1 H) (hW : hsW B H) (hL : lgR B lg (s2.2.2.1 4) R T) {sR qv : RS} {f : Nat → Option Nat} (hJ : agJ s2 H sR) {x n k cn : Nat} (hk : k < n) (hn : n ≤ 30) (hx : x + n ≤ 10000) : ∃ cn' s' q', X12_agreed_b94 (nI x) (nI n) (nI cn) (nI k) sR = some (.inl (nI cn', nI (k + 1), s')) ∧ X11_agreed_b55 (nI x) (nI n) (nI cn) (nI k) s0 s1 r lg qv b0 b2 b3 f = some (.inl (nI cn', nI (k + 1), q', fq b2 b3 f)) ∧ agJ s2 H s' := by
  obtain ⟨j1, j2, j3, j4, j5, j6⟩ := hJ
  obtain ⟨v', s', q', f1, f2, f3, f5, f6, f7⟩ := run_ok (s := sR) (q := qv) (nw := s1) (H := H) (R := R) (T := T) (lg := lg) (by rw [j5]; exact hB) hw hR (by rw [j5]; exact hH) hN hW (by rw [j5]; exact hL) (x := x + k) (by omega)
  have al := x_alike (lg := lg) hR hw f7 f5
  have hB' : blk (s'.2.2.1 4) 0 B := ⟨fun j hj => by rw [f6.2.2.2.2 (0 + j) (by omega), j5]; exact hB.1 j hj, hB.2⟩
  have h15 : ∀ i, i < 4 → s'.2.2.1 15 i = nI (H i) := fun i hi => by rw [f6.2.2.2.1 15 (by omega)]; exact j6 i hi
  refine ⟨cn + (alk v'.1 (B 1)).toNat, cpB H s' 4, q', ?_, ?_, ?_⟩
  · unfold X12_agreed_b94
    rw [if_neg (nI_ge hk (by omega)), nI_add, f1, ob_s, r_alike hB' hw f7 f3, ob_s]
    unfold X12_agreed_j174
    cases alk v'.1 (B 1) with
    | true => rw [if_pos rfl, thn_eq, b2i_t, nI_add, r_back h15, ob_s, thn_eq, nI_1]; rfl
    | false => rw [if_neg (by decide), thn_eq, b2i_f, nI_add, r_back h15, ob_s, thn_eq, nI_1]; rfl
  · unfold X11_agreed_b55 X11_agreed_j100
    rw [if_neg (nI_ge hk (by omega)), nI_add, f2, ob_s, al, ob_s]
    cases alk v'.1 (B 1) with
    | true => rw [if_pos rfl, thn_eq, thn_eq, nI_1, nI_1]; rfl
    | false => rw [if_neg (by decide), thn_eq, nI_1]; rfl
  · have k2 := cpB_2 H s' 4
    refine ⟨fun j hj => by rw [k2.1, f6.1 j hj, j1 j hj], by rw [k2.2.1, f6.2.1, j2], by rw [k2.2.2.1, f6.2.2.1, j3], fun m hm => by rw [k2.2.2.2 m (by omega), f6.2.2.2.1 m (by omega), j4 m hm], ?_, fun i hi => by rw [k2.2.2.2 15 (by decide)]; exact h15 i hi⟩
    funext j
    rw [cpB_1]
    by_cases c : 114 ≤ j ∧ j < 114 + 4
    · rw [if_pos c]
      have := hH (j - 114) (by omega)
      rw [show 114 + (j - 114) = j by omega] at this
      exact this.symm
    · rw [if_neg c, f6.2.2.2.2 j (by omega), j5]
def bA (x n : Nat) (y : Int32 × Int32 × RS) : Option ((Int32 × Int32 × RS) ⊕ (Int32 × RS)) := X12_agreed_b94 (nI x) (nI n) y.1 y.2.1 y.2.2
def bC (x n : Nat) (s0 s1 r lg : RS) (b0 b2 b3 : Nat) (y : Int32 × Int32 × RS × (Nat → Option Nat)) : Option ((Int32 × Int32 × RS × (Nat → Option Nat)) ⊕ (Int32 × RS × (Nat → Option Nat))) := X11_agreed_b55 (nI x) (nI n) y.1 y.2.1 s0 s1 r lg y.2.2.1 b0 b2 b3 y.2.2.2
theorem ag_loop (hB : blk (s2.2.2.1 4) 0 B) (hw : wfB B) (hR : bkR B r) (hH : hsR (s2.2.2.1 4) H) (hN : hsC s1 H) (hW : hsW B H) (hL : lgR B lg (s2.2.2.1 4) R T) {x n : Nat} (hn : n ≤ 30) (hx : x + n ≤ 10000) (m : Nat) : ∀ (k cn : Nat) (sR qv : RS) (f : Nat → Option Nat) (N : Nat), k + m = n → m < N → agJ s2 H sR → ∃ cn' s' q' f', a_loop (bA x n) N (nI cn, nI k, sR) = some (nI cn', s') ∧ a_loop (bC x n s0 s1 r lg b0 b2 b3) N (nI cn, nI k, qv, f) = some (nI cn', q', f') ∧ agJ s2 H s' ∧ ((m = 0 ∧ f' = f) ∨ f' = fq b2 b3 f) := by
  induction m with
  | zero =>
    intro k cn sR qv f N hk hN1 hJ
    obtain ⟨M, rfl⟩ := Nat.exists_eq_succ_of_ne_zero (show N ≠ 0 by omega)
    refine ⟨cn, sR, qv, f, lp_e ?_, lp_e ?_, hJ, Or.inl ⟨rfl, rfl⟩⟩
    · dsimp only [bA, X12_agreed_b94]
      rw [if_pos (nI_le (by omega) (by omega))]
    · dsimp only [bC, X11_agreed_b55]
      rw [if_pos (nI_le (by omega) (by omega))]
  | succ m ih =>
    intro k cn sR qv f N hk hN1 hJ
    obtain ⟨M, rfl⟩ := Nat.exists_eq_succ_of_ne_zero (show N ≠ 0 by omega)
    obtain ⟨c1, t1, q1, e1, e2, e3⟩ := ag_round (s0 := s0) (qv := qv) (b0 := b0) (b2 := b2) (b3 := b3) (f := f) (cn := cn) hB hw hR hH hN hW hL hJ (show k < n by omega) hn hx
    obtain ⟨c2, t2, q2, f2, g1, g2, g3, g4⟩ := ih (k + 1) c1 t1 q1 (fq b2 b3 f) M (by omega) (by omega) e3
    have a1 : bA x n (nI cn, nI k, sR) = some (.inl (nI c1, nI (k + 1), t1)) := e1
    have a2 : bC x n s0 s1 r lg b0 b2 b3 (nI cn, nI k, qv, f) = some (.inl (nI c1, nI (k + 1), q1, fq b2 b3 f)) := e2
    refine ⟨c2, t2, q2, f2, (lp_s a1).trans g1, (lp_s a2).trans g2, g3, Or.inr ?_⟩
    rcases g4 with ⟨_, g⟩ | g
    · exact g
    · rw [g, fq_fq]
theorem agJ_rs {sR : RS} (h : agJ (uI (uI s 1 (0 : Int32)) 0 (0 : Int32)) H sR) : rsame s sR ∧ sR.1 0 = nI 0 :=
  ⟨⟨⟨h.1 8 (by omega), h.1 10 (by omega), h.1 11 (by omega), h.1 22 (by omega), h.1 43 (by omega)⟩, ⟨congrFun h.2.1 2, congrFun h.2.1 3⟩, ⟨h.2.2.2.1 0 (by omega), h.2.2.2.1 1 (by omega), h.2.2.2.1 3 (by omega), h.2.2.2.2.1, h.2.2.2.1 14 (by omega)⟩, congrFun h.2.2.1 2, congrFun h.2.2.1 5⟩, h.1 0 (by omega)⟩
theorem le_nlt (a b : Int32) : a ≤ b ↔ ¬ b < a := by
  rw [Int32.le_iff_toInt_le, Int32.lt_iff_toInt_lt]; omega
/-- which of AGREED's two numbers are good -/
theorem ag_in (a0 a1 : Int32) : (∃ x n, a0 = nI x ∧ a1 = nI n ∧ 1 ≤ n ∧ n ≤ 30 ∧ x + n ≤ 10000 ∧ pX12_isIn a1.toInt64 (1 : Int64) (30 : Int64) = some true ∧ pX12_isIn a0.toInt64 (0 : Int64) (((10000 : Int32) - a1).toInt64) = some true ∧ ¬ a0 < 0 ∧ ¬ a1 < (1 : Int32) ∧ ¬ (30 : Int32) < a1 ∧ a0 ≤ (10000 : Int32) - a1) ∨ ((pX12_isIn a1.toInt64 (1 : Int64) (30 : Int64) = some false ∨ (pX12_isIn a1.toInt64 (1 : Int64) (30 : Int64) = some true ∧ pX12_isIn a0.toInt64 (0 : Int64) (((10000 : Int32) - a1).toInt64) = some false)) ∧ (a0 < 0 ∨ a1 < (1 : Int32) ∨ (30 : Int32) < a1 ∨ ¬ a0 ≤ (10000 : Int32) - a1)) := by
  rw [show (1 : Int64) = (1 : Int32).toInt64 by decide, show (30 : Int64) = (30 : Int32).toInt64 by decide, w0, isIn_w, isIn_w]
  by_cases c1 : a1 < (1 : Int32)
  · rw [if_pos c1]; exact Or.inr ⟨Or.inl rfl, Or.inr (Or.inl c1)⟩
  · rw [if_neg c1]
    by_cases c2 : (30 : Int32) < a1
    · rw [if_pos c2]; exact Or.inr ⟨Or.inl rfl, Or.inr (Or.inr (Or.inl c2))⟩
    · rw [if_neg c2]
      by_cases c3 : a0 < (0 : Int32)
      · rw [if_pos c3]; exact Or.inr ⟨Or.inr ⟨rfl, rfl⟩, Or.inl c3⟩
      · rw [if_neg c3]
        by_cases c4 : (10000 : Int32) - a1 < a0
        · rw [if_pos c4]; exact Or.inr ⟨Or.inr ⟨rfl, rfl⟩, Or.inr (Or.inr (Or.inr (fun h => (le_nlt _ _).mp h c4)))⟩
        · rw [if_neg c4]
          left
          rw [Int32.lt_iff_toInt_lt] at c1 c2
          rw [show (1 : Int32).toInt = 1 by decide] at c1
          rw [show (30 : Int32).toInt = 30 by decide] at c2
          rcases pk_ix a1 (n := 31) (by omega) with h | h | ⟨n, hn, rfl⟩
          · rw [Int32.lt_iff_toInt_lt, show (0 : Int32).toInt = 0 by decide] at h; omega
          · rw [Int32.le_iff_toInt_le, show (nI 31).toInt = 31 by decide] at h; omega
          · rw [nI_toInt (by omega)] at c1 c2
            have e : (10000 : Int32) - nI n = nI (10000 - n) := sbI (a := 10000) (by omega)
            rw [e] at c4 ⊢
            rcases pk_ix a0 (n := 10001) (by omega) with h | h | ⟨x, hx, rfl⟩
            · exact absurd h c3
            · rw [Int32.lt_iff_toInt_lt, nI_toInt (by omega)] at c4
              rw [Int32.le_iff_toInt_le, nI_toInt (by omega)] at h
              omega
            · have c4' := c4
              rw [Int32.lt_iff_toInt_lt, nI_toInt (by omega), nI_toInt (by omega)] at c4'
              refine ⟨x, n, rfl, rfl, by omega, by omega, by omega, rfl, rfl, c3, ?_, ?_, (le_nlt _ _).mpr c4⟩
              · rw [Int32.lt_iff_toInt_lt, nI_toInt (by omega), show (1 : Int32).toInt = 1 by decide]; omega
              · rw [Int32.lt_iff_toInt_lt, nI_toInt (by omega), show (30 : Int32).toInt = 30 by decide]; omega
theorem q_agreed (hB : blk (s.2.2.1 4) 0 B) (hw : wfB B) (hR : bkR B r) (hH : hsR (s.2.2.1 4) H) (hN : hsC s1 H) (hW : hsW B H) (hL : lgR B lg (s.2.2.1 4) R T) (h135 : s.2.2.1 4 135 = nI 1) (a0 a1 : Int32) : ∃ a s' q' f', pX12_agreed s a0 a1 = some (a, s') ∧ rsame s s' ∧ pX11_agreed s0 s1 r lg s4 b0 b2 b3 f4 a0 a1 = some (a, uI s0 11 (s'.1 0), q', f') ∧ ((q' = s4 ∧ f' = f4) ∨ f' = fq b2 b3 f4) := by
  unfold pX12_agreed pX11_agreed
  rw [thn_eq, thn_eq]
  rcases ag_in a0 a1 with ⟨x, n, rfl, rfl, n1, n30, hx, e1, e2, c1, c2, c3, c4⟩ | ⟨e1, c1⟩
  · rw [e1, ob_s, if_pos rfl, e2, ob_s, if_pos rfl, if_neg c1, if_neg c2, if_neg c3, if_pos c4, show (135 : Int32) = nI 135 from rfl, g_inT (by omega) (by omega), nI_clamp (by omega), if_neg (show ¬ (uI (uI s 1 (0 : Int32)) 0 (0 : Int32)).2.2.1 4 135 = (0 : Int32) by show ¬ s.2.2.1 4 135 = (0 : Int32); rw [h135]; decide)]
    have keep : a_loop (fun (y : Int32 × RS) => X12_agreed_b63 (nI x) (nI n) y.1 y.2) FU ((0 : Int32), uI (uI s 1 (0 : Int32)) 0 (0 : Int32)) = some (cpG 15 H (uI (uI s 1 (0 : Int32)) 0 (0 : Int32)) 4) := by
      refine lp_f (body := fun (y : Int32 × RS) => X12_agreed_b63 (nI x) (nI n) y.1 y.2) (fun k => (nI k, cpG 15 H (uI (uI s 1 (0 : Int32)) 0 (0 : Int32)) k)) 4 (by decide) (fun k hk => ?_) ?_
      · dsimp only [X12_agreed_b63]
        rw [show (4 : Int32) = nI 4 from rfl, if_neg (nI_ge hk (by omega)), g114 hk, c114 hk, g_inT hk (by omega), nI_clamp (by omega), (cpG_2 15 H (uI (uI s 1 (0 : Int32)) 0 (0 : Int32)) k).2.2.2 4 (by decide), show (uI (uI s 1 (0 : Int32)) 0 (0 : Int32)).2.2.1 4 (114 + k) = nI (H k) from hH k hk, thn_eq, thn_eq, nI_1]; rfl
      · dsimp only [X12_agreed_b63]
        rw [if_pos (by decide)]
    rw [keep, ob_s]
    have k2 := cpG_2 15 H (uI (uI s 1 (0 : Int32)) 0 (0 : Int32)) 4
    have J0 : agJ (uI (uI s 1 (0 : Int32)) 0 (0 : Int32)) H (cpG 15 H (uI (uI s 1 (0 : Int32)) 0 (0 : Int32)) 4) := ⟨fun j _ => by rw [k2.1], k2.2.1, k2.2.2.1, fun m hm => k2.2.2.2 m (by omega), k2.2.2.2 4 (by decide), cpG_1 15 H _ 4⟩
    obtain ⟨cn, s', q', f', g1, g2, g3, g4⟩ := ag_loop (s2 := uI (uI s 1 (0 : Int32)) 0 (0 : Int32)) (s0 := s0) (s1 := s1) (b0 := b0) (b2 := b2) (b3 := b3) hB hw hR hH hN hW hL n30 hx n 0 0 _ s4 f4 FU (by omega) (by show _ < 100000; omega) J0
    have g1' : a_loop (fun (y : Int32 × Int32 × RS) => X12_agreed_b94 (nI x) (nI n) y.1 y.2.1 y.2.2) FU ((0 : Int32), (0 : Int32), cpG 15 H (uI (uI s 1 (0 : Int32)) 0 (0 : Int32)) 4) = some (nI cn, s') := g1
    have g2' : a_loop (fun (y : Int32 × Int32 × RS × (Nat → Option Nat)) => X11_agreed_b55 (nI x) (nI n) y.1 y.2.1 s0 s1 r lg y.2.2.1 b0 b2 b3 y.2.2.2) FU ((0 : Int32), (0 : Int32), s4, f4) = some (nI cn, q', f') := g2
    rw [g1', g2', ob_s, ob_s]
    obtain ⟨r1, r2⟩ := agJ_rs g3
    refine ⟨nI cn, s', q', f', rfl, r1, ?_, ?_⟩
    · unfold pX11_tell
      rw [thn_eq, ob_s, r2]; rfl
    · rcases g4 with ⟨g, _⟩ | g
      · exact absurd g (by omega)
      · exact Or.inr g
  · unfold X12_agreed_j37 X11_agreed_j24 pX12_refuse pX11_refuse
    refine ⟨m1I, uI (uI (uI s 1 (0 : Int32)) 0 (0 : Int32)) 0 (5 : Int32), s4, f4, ?_, rq_3 _ _ _ _, ?_, Or.inl ⟨rfl, rfl⟩⟩
    · rcases e1 with e | ⟨e, e'⟩
      · rw [e, ob_s, if_neg (by decide), thn_eq, ob_s]; rfl
      · rw [e, ob_s, if_pos rfl, e', ob_s, if_neg (by decide), thn_eq, ob_s]; rfl
    · rw [thn_eq, ob_s]
      by_cases d1 : a0 < 0
      · rw [if_pos d1]; rfl
      · rw [if_neg d1]
        by_cases d2 : a1 < (1 : Int32)
        · rw [if_pos d2]; rfl
        · rw [if_neg d2]
          by_cases d3 : (30 : Int32) < a1
          · rw [if_pos d3]; rfl
          · rw [if_neg d3, if_neg (by
              rcases c1 with h | h | h | h
              · exact absurd h d1
              · exact absurd h d2
              · exact absurd h d3
              · exact h)]; rfl
theorem q_agreedN (h135 : s.2.2.1 4 135 = nI 0) (a0 a1 : Int32) : qq s s0 (pX12_agreed s a0 a1) (pX11_agreedN s0 s1 r lg a0 a1) := by
  unfold pX12_agreed pX11_agreedN
  rw [thn_eq, thn_eq]
  rcases ag_in a0 a1 with ⟨x, n, rfl, rfl, n1, n30, hx, e1, e2, c1, c2, c3, c4⟩ | ⟨e1, c1⟩
  · rw [e1, ob_s, if_pos rfl, e2, ob_s, if_pos rfl, if_neg c1, if_neg c2, if_neg c3, if_pos c4, show (135 : Int32) = nI 135 from rfl, g_inT (by omega) (by omega), nI_clamp (by omega), if_pos (show (uI (uI s 1 (0 : Int32)) 0 (0 : Int32)).2.2.1 4 135 = (0 : Int32) from h135)]
    exact ⟨_, _, rfl, rq_3 _ _ _ _, rfl⟩
  · unfold X12_agreed_j37 X11_agreedN_j24 pX12_refuse pX11_refuse
    refine ⟨m1I, uI (uI (uI s 1 (0 : Int32)) 0 (0 : Int32)) 0 (5 : Int32), ?_, rq_3 _ _ _ _, ?_⟩
    · rcases e1 with e | ⟨e, e'⟩
      · rw [e, ob_s, if_neg (by decide), thn_eq, ob_s]; rfl
      · rw [e, ob_s, if_pos rfl, e', ob_s, if_neg (by decide), thn_eq, ob_s]; rfl
    · rw [thn_eq, ob_s]
      by_cases d1 : a0 < 0
      · rw [if_pos d1]; rfl
      · rw [if_neg d1]
        by_cases d2 : a1 < (1 : Int32)
        · rw [if_pos d2]; rfl
        · rw [if_neg d2]
          by_cases d3 : (30 : Int32) < a1
          · rw [if_pos d3]; rfl
          · rw [if_neg d3, if_neg (by
              rcases c1 with h | h | h | h
              · exact absurd h d1
              · exact absurd h d2
              · exact absurd h d3
              · exact h)]; rfl
end V
