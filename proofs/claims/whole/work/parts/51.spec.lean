/-! WHAT A BOOK SAYS. B: a block's numbers (0 how many CHANGES, 1 ISLANDS, 2+k kind, 18+k key, 34+k says, 50+k of, 66+k not, 82+k needs, 98+k hangs on, 114+i has, 118 how many in order, 119+k order, 135 has a log, 136 steps, 137+7k.. steps) -/
def blk (c : Nat → Int32) (o : Nat) (B : Nat → Nat) : Prop := (∀ j, j < 114 → c (o + j) = nI (B j)) ∧ ∀ j, B j < 65536
/-- the THING -/
def thF (B : Nat → Nat) : Nat → Nat → Nat
  | 0, k => k
  | n + 1, k => if B (2 + k) = 0 then k else thF B n (B (50 + k))
def thB (B : Nat → Nat) (k : Nat) : Nat := thF B (k + 1) k
def fgt (a b : Nat) : Bool := (a == 2 && b == 2) || (a == 3 && b == 3) || (a == 1 && (b == 2 || b == 3)) || (b == 1 && (a == 2 || a == 3))
def wq (B : Nat → Nat) (a b : Nat) : Bool := !(a == b) && fgt (B (2 + a)) (B (2 + b)) && thB B a == thB B b && !(B (98 + a)).testBit b && !(B (98 + b)).testBit a
def hgr (B : Nat → Nat) (k : Nat) : Nat := mkN (fun i => (B (98 + i)).testBit k) (B 0)
def ned (B : Nat → Nat) (t : Nat) : Nat := orN (fun k => if t.testBit k then B (98 + k) else 0) (B 0)
def lk (B : Nat → Nat) (t : Nat) : Nat := bdf (ned B t) t
def lo (B : Nat → Nat) (t k : Nat) : Bool := anN (fun s => t.testBit s && B (2 + s) == 4 && B (66 + s) == k) (B 0)
def stl (B : Nat → Nat) (t a b : Nat) : Bool := anN (fun s => t.testBit s && B (2 + s) == 4 && ((B (50 + s) == a && B (66 + s) == b) || (B (50 + s) == b && B (66 + s) == a))) (B 0)
def qr (B : Nat → Nat) (t a b : Nat) : Bool := t.testBit a && t.testBit b && wq B a b && !stl B t a b
def qrs (B : Nat → Nat) (t k : Nat) : Nat := mkN (fun i => qr B t k i) (B 0)
def qsm (B : Nat → Nat) (t : Nat) : Nat := smN (fun a => bts (qrs B t a)) (B 0)
def thr (B : Nat → Nat) (t p : Nat) : Bool := t.testBit p && B (2 + p) == 0 && !anN (fun x => t.testBit x && B (2 + x) == 1 && thB B x == p && !lo B t x && qrs B t x == 0) (B 0)
def allT (B : Nat → Nat) (t p kd : Nat) : Nat := mkN (fun k => t.testBit k && B (2 + k) == kd && thB B k == p && !lo B t k) (B 0)
def hdT (B : Nat → Nat) (al : Nat) : Nat := mkN (fun k => al.testBit k && alN (fun i => !(al.testBit i && (B (98 + i)).testBit k)) (B 0)) (B 0)
def ahg (B : Nat → Nat) (hd k : Nat) : Bool := !anN (fun i => hd.testBit i && !(B (98 + i)).testBit k) (B 0)
def lsT (B : Nat → Nat) (al hd p : Nat) : Option Nat := lsN (fun k => if bts hd = 1 then hd == 2 ^ k else (al.testBit k || k == p) && ahg B hd k) (B 0)
def tol (B : Nat → Nat) (t p kd : Nat) : Nat := if hdT B (allT B t p kd) = 0 then B ((if kd = 2 then 34 else 18) + p) else B ((if kd = 2 then 34 else 18) + (lsT B (allT B t p kd) (hdT B (allT B t p kd)) p).getD 0)
/-- a book that is well formed -/
def wfB (B : Nat → Nat) : Prop := B 0 ≤ 16 ∧ B 1 ≤ 4 ∧ ∀ k, k < B 0 → B (2 + k) ≤ 4 ∧ B (98 + k) < 2 ^ k ∧ B (82 + k) < 2 ^ k ∧
  (∀ i, (B (98 + k)).testBit i = ((B (82 + k)).testBit i || anN (fun j => (B (82 + k)).testBit j && (B (98 + j)).testBit i) k)) ∧
  (B (2 + k) ≠ 0 → B (50 + k) < k ∧ (B (82 + k)).testBit (B (50 + k)) = true) ∧ (B (2 + k) = 1 ∨ B (2 + k) = 2 ∨ B (2 + k) = 3 → B (2 + B (50 + k)) ≠ 1 ∧ B (2 + B (50 + k)) ≠ 4) ∧
  (B (2 + k) = 4 → B (66 + k) < k ∧ (B (82 + k)).testBit (B (66 + k)) = true ∧ wq B (B (50 + k)) (B (66 + k)) = true)
theorem thF_ok {B : Nat → Nat} (hw : wfB B) : ∀ (n m k : Nat), k < n → k < m → k < B 0 → thF B n k = thF B m k
  | 0, _, _, h, _, _ => absurd h (Nat.not_lt_zero _)
  | _ + 1, 0, _, _, h, _ => absurd h (Nat.not_lt_zero _)
  | n + 1, m + 1, k, h1, h2, h3 => by
    unfold thF
    by_cases e : B (2 + k) = 0
    · rw [if_pos e, if_pos e]
    · rw [if_neg e, if_neg e]
      have := ((hw.2.2 k h3).2.2.2.2.1 e).1
      exact thF_ok hw n m _ (by omega) (by omega) (by omega)
theorem thB_put {B : Nat → Nat} {k : Nat} (h : B (2 + k) = 0) : thB B k = k := if_pos h
theorem thB_of {B : Nat → Nat} (hw : wfB B) {k : Nat} (hk : k < B 0) (h : B (2 + k) ≠ 0) : thB B k = thB B (B (50 + k)) := by
  have h1 := ((hw.2.2 k hk).2.2.2.2.1 h).1
  unfold thB
  rw [show thF B (k + 1) k = thF B k (B (50 + k)) from if_neg h]
  exact thF_ok hw _ _ _ h1 (by omega) (by omega)
theorem thB_lt {B : Nat → Nat} (hw : wfB B) : ∀ {k : Nat}, k < B 0 → thB B k ≤ k ∧ B (2 + thB B k) = 0 := by
  intro k
  induction k using Nat.strongRecOn with
  | ind k ih =>
    intro hk
    by_cases e : B (2 + k) = 0
    · rw [thB_put e]; exact ⟨Nat.le_refl _, e⟩
    · have h1 := ((hw.2.2 k hk).2.2.2.2.1 e).1
      rw [thB_of hw hk e]
      have := ih _ h1 (by omega)
      exact ⟨by omega, this.2⟩
section R
variable {s : RS} {B : Nat → Nat}
theorem r_kind (hB : blk (s.2.2.1 4) 0 B) {k : Nat} (hk : k < 16) : pX12_kind s (0 : Int32) (nI k) = some (nI (B (2 + k))) := by
  obtain ⟨hc, hv⟩ := hB
  have hc : ∀ j, j < 114 → s.2.2.1 4 j = nI (B j) := fun j h => by have := hc j h; rwa [Nat.zero_add] at this
  unfold pX12_kind
  simp (disch := omega) only [thn_eq, ob_s, se_l, se_r, li, lL, m1_i, nI_clamp, g_inT, leT, leF, ltT, ltF, eqT, eqF, nI_add, pk_mul, sbI, s1I, orI, dfI, Nat.reduceAdd, Nat.reduceMul, Nat.zero_add, ↓reduceIte, if_true, if_false, hc]
theorem r_hangsOn (hB : blk (s.2.2.1 4) 0 B) {k : Nat} (hk : k < 16) : pX12_hangsOn s (0 : Int32) (nI k) = some (nI (B (98 + k))) := by
  obtain ⟨hc, hv⟩ := hB
  have hc : ∀ j, j < 114 → s.2.2.1 4 j = nI (B j) := fun j h => by have := hc j h; rwa [Nat.zero_add] at this
  unfold pX12_hangsOn
  simp (disch := omega) only [thn_eq, ob_s, se_l, se_r, li, lL, m1_i, nI_clamp, g_inT, leT, leF, ltT, ltF, eqT, eqF, nI_add, pk_mul, sbI, s1I, orI, dfI, Nat.reduceAdd, Nat.reduceMul, Nat.zero_add, ↓reduceIte, if_true, if_false, hc]
theorem r_thingOf (hB : blk (s.2.2.1 4) 0 B) (hw : wfB B) {k : Nat} (hk : k < B 0) : pX12_thingOf s (0 : Int32) (nI k) = some (nI (thB B k)) := by
  have h16 := hw.1
  unfold pX12_thingOf
  obtain ⟨x, h1, h2⟩ := lp_m (body := fun (q : Int32) => X12_thingOf_b2 (0 : Int32) q s) (I := fun j q => j < B 0 ∧ q = nI j ∧ thB B j = thB B k) (P := fun x => x = nI (thB B k)) (fun j q hi => by
    obtain ⟨hj, rfl, he⟩ := hi
    dsimp only [X12_thingOf_b2]
    rw [r_kind hB (by omega), ob_s]
    obtain ⟨hc, hv⟩ := hB
    have hc : ∀ j, j < 114 → s.2.2.1 4 j = nI (B j) := fun j h => by have := hc j h; rwa [Nat.zero_add] at this
    by_cases e : B (2 + j) = 0
    · refine Or.inr ⟨nI j, ?_, ?_⟩
      · rw [← he, thB_put e]
      · rw [if_pos (by rw [e]; rfl)]
    · have h3 := ((hw.2.2 j hj).2.2.2.2.1 e).1
      refine Or.inl ⟨_, nI (B (50 + j)), h3, ⟨by omega, rfl, ?_⟩, ?_⟩
      · rw [← he, thB_of hw hj e]
      · have h4 := hv (2 + j)
        simp (disch := omega) only [thn_eq, ob_s, se_l, se_r, li, lL, m1_i, nI_clamp, g_inT, leT, leF, ltT, ltF, eqT, eqF, nI_add, pk_mul, sbI, s1I, orI, dfI, Nat.reduceAdd, Nat.reduceMul, Nat.zero_add, ↓reduceIte, if_true, if_false, hc]) FU k (nI k) (by show k < 100000; omega) ⟨hk, rfl, rfl⟩
  rw [h1, h2]; rfl
theorem r_fight {a b : Nat} (ha : a ≤ 4) (hb : b ≤ 4) : pX12_fight (nI a) (nI b) = some (fgt a b) := by
  have : ∀ a, a < 5 → ∀ b, b < 5 → pX12_fight (nI a) (nI b) = some (fgt a b) := by decide +kernel
  exact this a (by omega) b (by omega)
theorem r_wouldQuarrel (hB : blk (s.2.2.1 4) 0 B) (hw : wfB B) {a b : Nat} (ha : a < B 0) (hb : b < B 0) : pX12_wouldQuarrel s (0 : Int32) (nI a) (nI b) = some (wq B a b) := by
  have h16 := hw.1
  have k1 := (hw.2.2 a ha).1
  have k2 := (hw.2.2 b hb).1
  have v1 := hB.2 (98 + a)
  have v2 := hB.2 (98 + b)
  have t1 := (thB_lt hw ha).1
  have t2 := (thB_lt hw hb).1
  unfold pX12_wouldQuarrel wq
  rw [ifE (by omega) (by omega)]
  by_cases e : a = b
  · rw [if_pos e, e]; simp
  · rw [if_neg e, r_kind hB (by omega), r_kind hB (by omega), ob_s, ob_s, r_fight k1 k2, ob_s, r_thingOf hB hw ha, r_thingOf hB hw hb, r_hangsOn hB (by omega), r_hangsOn hB (by omega)]
    simp only [ob_s]
    rw [shI (by omega) (by omega), shI (by omega) (by omega), show (1 : Int32) = nI 1 from rfl, b1I, b1I, show (0 : Int32) = nI 0 from rfl, ifT0, ifT0, ifE (by omega) (by omega)]
    have e0 : (a == b) = false := by simpa using e
    rw [e0]
    cases fgt (B (2 + a)) (B (2 + b)) with
    | false => rfl
    | true =>
      by_cases e2 : thB B a = thB B b
      · rw [e2]
        cases (B (98 + a)).testBit b <;> cases (B (98 + b)).testBit a <;> simp
      · have e3 : (thB B a == thB B b) = false := by simpa using e2
        rw [e3]; simp [e2]
theorem r_lackOf (hB : blk (s.2.2.1 4) 0 B) (hw : wfB B) {t : Nat} (ht : t < 65536) : pX12_lackOf s (nI t) = some (nI (lk B t)) := by
  have h16 := hw.1
  have hb0 : s.2.2.1 4 (0 : Int32).toNatClampNeg = nI (B 0) := hB.1 0 (by omega)
  unfold pX12_lackOf
  refine bd (lp_acc (fun k => orN (fun k => if t.testBit k then B (98 + k) else 0) k) (B 0) (by omega) (fun k hk => ?_) ?_) ?_
  · dsimp only [X12_lackOf_b4, X12_lackOf_j33]
    rw [hb0, hasT (by omega) (by omega), ob_s, r_hangsOn hB (by omega), ob_s]
    cases e : t.testBit k
    · simp (disch := omega) only [thn_eq, ob_s, se_l, se_r, li, lL, m1_i, nI_clamp, g_inT, leT, leF, ltT, ltF, eqT, eqF, nI_add, pk_mul, sbI, s1I, orI, dfI, Nat.reduceAdd, Nat.reduceMul, Nat.zero_add, ↓reduceIte, if_true, if_false, Bool.false_eq_true, orN, e]
    · simp (disch := omega) only [thn_eq, ob_s, se_l, se_r, li, lL, m1_i, nI_clamp, g_inT, leT, leF, ltT, ltF, eqT, eqF, nI_add, pk_mul, sbI, s1I, orI, dfI, Nat.reduceAdd, Nat.reduceMul, Nat.zero_add, ↓reduceIte, if_true, if_false, orN, e]
  · dsimp only [X12_lackOf_b4, X12_lackOf_j33]
    rw [hb0]
    simp (disch := omega) only [thn_eq, ob_s, se_l, se_r, li, lL, m1_i, nI_clamp, g_inT, leT, leF, ltT, ltF, eqT, eqF, nI_add, pk_mul, sbI, s1I, orI, dfI, Nat.reduceAdd, Nat.reduceMul, Nat.zero_add, ↓reduceIte, if_true, if_false]
  · try dsimp only
    rw [show (-1 : Int32) = m1I from rfl, dfI]; rfl
theorem r_hangers (hB : blk (s.2.2.1 4) 0 B) (hw : wfB B) {x : Nat} (hx : x < 16) : pX12_hangers s (nI x) = some (nI (hgr B x)) := by
  have h16 := hw.1
  have hb0 : s.2.2.1 4 (0 : Int32).toNatClampNeg = nI (B 0) := hB.1 0 (by omega)
  unfold pX12_hangers
  refine bd (lp_acc (fun k => mkN (fun i => (B (98 + i)).testBit x) k) (B 0) (by omega) (fun k hk => ?_) ?_) ?_
  · dsimp only [X12_hangers_b4, X12_hangers_j35]
    have := hB.2 (98 + k)
    rw [hb0, r_hangsOn hB (by omega), ob_s, hasT (by omega) (by omega), ob_s]
    cases e : (B (98 + k)).testBit x
    · simp (disch := omega) only [thn_eq, ob_s, se_l, se_r, li, lL, m1_i, nI_clamp, g_inT, leT, leF, ltT, ltF, eqT, eqF, nI_add, pk_mul, sbI, s1I, orI, dfI, Nat.reduceAdd, Nat.reduceMul, Nat.zero_add, ↓reduceIte, if_true, if_false, Bool.false_eq_true, mkN, e]
    · simp (disch := omega) only [thn_eq, ob_s, se_l, se_r, li, lL, m1_i, nI_clamp, g_inT, leT, leF, ltT, ltF, eqT, eqF, nI_add, pk_mul, sbI, s1I, orI, dfI, Nat.reduceAdd, Nat.reduceMul, Nat.zero_add, ↓reduceIte, if_true, if_false, mkN, e]
  · dsimp only [X12_hangers_b4, X12_hangers_j35]
    rw [hb0]
    simp (disch := omega) only [thn_eq, ob_s, se_l, se_r, li, lL, m1_i, nI_clamp, g_inT, leT, leF, ltT, ltF, eqT, eqF, nI_add, pk_mul, sbI, s1I, orI, dfI, Nat.reduceAdd, Nat.reduceMul, Nat.zero_add, ↓reduceIte, if_true, if_false]
  · rfl
theorem r_isLeftOut (hB : blk (s.2.2.1 4) 0 B) (hw : wfB B) {t x : Nat} (ht : t < 65536) (hx : x < 16) : pX12_isLeftOut s (nI t) (nI x) = some (lo B t x) := by
  have h16 := hw.1
  have hb0 : s.2.2.1 4 (0 : Int32).toNatClampNeg = nI (B 0) := hB.1 0 (by omega)
  have hc : ∀ j, j < 114 → s.2.2.1 4 j = nI (B j) := fun j h => by have := hB.1 j h; rwa [Nat.zero_add] at this
  unfold pX12_isLeftOut
  refine bd (lp_any (fun s => t.testBit s && B (2 + s) == 4 && B (66 + s) == x) (B 0) (by omega) (fun k hk => ?_) ?_) ?_
  · dsimp only [X12_isLeftOut_b2, X12_isLeftOut_j45]
    have v1 := hB.2 (2 + k)
    have v2 := hB.2 (66 + k)
    rw [hb0, hasT (by omega) (by omega), ob_s, r_kind hB (by omega), ob_s]
    simp (disch := omega) only [thn_eq, ob_s, se_l, se_r, li, lL, m1_i, nI_clamp, g_inT, leT, leF, ltT, ltF, eqT, eqF, nI_add, pk_mul, sbI, s1I, orI, dfI, Nat.reduceAdd, Nat.reduceMul, Nat.zero_add, ↓reduceIte, if_true, if_false, hc, eqI]
    cases e : t.testBit k <;> by_cases e2 : B (2 + k) = 4 <;> by_cases e3 : B (66 + k) = x <;> simp [e2, e3]
  · dsimp only [X12_isLeftOut_b2]
    rw [hb0]
    simp (disch := omega) only [thn_eq, ob_s, se_l, se_r, li, lL, m1_i, nI_clamp, g_inT, leT, leF, ltT, ltF, eqT, eqF, nI_add, pk_mul, sbI, s1I, orI, dfI, Nat.reduceAdd, Nat.reduceMul, Nat.zero_add, ↓reduceIte, if_true, if_false]
  · unfold lo
    cases anN _ (B 0) <;> rfl
theorem r_isSettled (hB : blk (s.2.2.1 4) 0 B) (hw : wfB B) {t a b : Nat} (ht : t < 65536) (ha : a < 16) (hb : b < 16) : pX12_isSettled s (nI t) (nI a) (nI b) = some (stl B t a b) := by
  have h16 := hw.1
  have hb0 : s.2.2.1 4 (0 : Int32).toNatClampNeg = nI (B 0) := hB.1 0 (by omega)
  have hc : ∀ j, j < 114 → s.2.2.1 4 j = nI (B j) := fun j h => by have := hB.1 j h; rwa [Nat.zero_add] at this
  unfold pX12_isSettled
  refine bd (lp_any (fun s => t.testBit s && B (2 + s) == 4 && ((B (50 + s) == a && B (66 + s) == b) || (B (50 + s) == b && B (66 + s) == a))) (B 0) (by omega) (fun k hk => ?_) ?_) ?_
  · dsimp only [X12_isSettled_b3, X12_isSettled_j65, X12_isSettled_j95]
    have v1 := hB.2 (2 + k)
    have v2 := hB.2 (66 + k)
    have v3 := hB.2 (50 + k)
    rw [hb0, hasT (by omega) (by omega), ob_s, r_kind hB (by omega), ob_s]
    simp (disch := omega) only [thn_eq, ob_s, se_l, se_r, li, lL, m1_i, nI_clamp, g_inT, leT, leF, ltT, ltF, eqT, eqF, nI_add, pk_mul, sbI, s1I, orI, dfI, Nat.reduceAdd, Nat.reduceMul, Nat.zero_add, ↓reduceIte, if_true, if_false, hc, eqI]
    cases e : t.testBit k <;> by_cases e2 : B (2 + k) = 4 <;> by_cases e3 : B (66 + k) = a <;> by_cases e4 : B (66 + k) = b <;> by_cases e5 : B (50 + k) = a <;> by_cases e6 : B (50 + k) = b <;> simp [e2, e3, e4, e5, e6]
  · dsimp only [X12_isSettled_b3]
    rw [hb0]
    simp (disch := omega) only [thn_eq, ob_s, se_l, se_r, li, lL, m1_i, nI_clamp, g_inT, leT, leF, ltT, ltF, eqT, eqF, nI_add, pk_mul, sbI, s1I, orI, dfI, Nat.reduceAdd, Nat.reduceMul, Nat.zero_add, ↓reduceIte, if_true, if_false]
  · unfold stl
    cases anN _ (B 0) <;> rfl
theorem r_quarrel (hB : blk (s.2.2.1 4) 0 B) (hw : wfB B) {t a b : Nat} (ht : t < 65536) (ha : a < B 0) (hb : b < B 0) : pX12_quarrel s (nI t) (nI a) (nI b) = some (qr B t a b) := by
  have h16 := hw.1
  unfold pX12_quarrel qr
  rw [hasT (by omega) (by omega), hasT (by omega) (by omega), ob_s, ob_s, r_wouldQuarrel hB hw ha hb, ob_s, r_isSettled hB hw ht (by omega) (by omega), ob_s]
  cases t.testBit a <;> cases t.testBit b <;> cases wq B a b <;> cases stl B t a b <;> rfl
theorem r_quarrelers (hB : blk (s.2.2.1 4) 0 B) (hw : wfB B) {t x : Nat} (ht : t < 65536) (hx : x < B 0) : pX12_quarrelers s (nI t) (nI x) = some (nI (qrs B t x)) := by
  have h16 := hw.1
  have hb0 : s.2.2.1 4 (0 : Int32).toNatClampNeg = nI (B 0) := hB.1 0 (by omega)
  unfold pX12_quarrelers
  refine bd (lp_acc (fun k => mkN (fun i => qr B t x i) k) (B 0) (by omega) (fun k hk => ?_) ?_) ?_
  · dsimp only [X12_quarrelers_b5, X12_quarrelers_j36]
    rw [hb0, r_quarrel hB hw ht hx hk, ob_s]
    cases e : qr B t x k
    · simp (disch := omega) only [thn_eq, ob_s, se_l, se_r, li, lL, m1_i, nI_clamp, g_inT, leT, leF, ltT, ltF, eqT, eqF, nI_add, pk_mul, sbI, s1I, orI, dfI, Nat.reduceAdd, Nat.reduceMul, Nat.zero_add, ↓reduceIte, if_true, if_false, Bool.false_eq_true, mkN, e]
    · simp (disch := omega) only [thn_eq, ob_s, se_l, se_r, li, lL, m1_i, nI_clamp, g_inT, leT, leF, ltT, ltF, eqT, eqF, nI_add, pk_mul, sbI, s1I, orI, dfI, Nat.reduceAdd, Nat.reduceMul, Nat.zero_add, ↓reduceIte, if_true, if_false, mkN, e]
  · dsimp only [X12_quarrelers_b5, X12_quarrelers_j36]
    rw [hb0]
    simp (disch := omega) only [thn_eq, ob_s, se_l, se_r, li, lL, m1_i, nI_clamp, g_inT, leT, leF, ltT, ltF, eqT, eqF, nI_add, pk_mul, sbI, s1I, orI, dfI, Nat.reduceAdd, Nat.reduceMul, Nat.zero_add, ↓reduceIte, if_true, if_false]
  · rfl
theorem qrs_lt {B : Nat → Nat} (hw : wfB B) (t x : Nat) : qrs B t x < 65536 := by
  have := hw.1
  exact mkN_lt' (m := 16) this
theorem r_quarrelsIn (hB : blk (s.2.2.1 4) 0 B) (hw : wfB B) {t : Nat} (ht : t < 65536) : pX12_quarrelsIn s (nI t) = some (nI (qsm B t / 2)) := by
  have h16 := hw.1
  have hb0 : s.2.2.1 4 (0 : Int32).toNatClampNeg = nI (B 0) := hB.1 0 (by omega)
  unfold pX12_quarrelsIn
  refine bd (lp_acc (fun k => smN (fun a => bts (qrs B t a)) k) (B 0) (by omega) (fun k hk => ?_) ?_) ?_
  · dsimp only [X12_quarrelsIn_b4]
    rw [hb0, r_quarrelers hB hw ht hk, ob_s, bitsT (qrs_lt hw _ _), ob_s]
    simp (disch := omega) only [thn_eq, ob_s, se_l, se_r, li, lL, m1_i, nI_clamp, g_inT, leT, leF, ltT, ltF, eqT, eqF, nI_add, pk_mul, sbI, s1I, orI, dfI, Nat.reduceAdd, Nat.reduceMul, Nat.zero_add, ↓reduceIte, if_true, if_false, smN]
  · dsimp only [X12_quarrelsIn_b4]
    rw [hb0]
    simp (disch := omega) only [thn_eq, ob_s, se_l, se_r, li, lL, m1_i, nI_clamp, g_inT, leT, leF, ltT, ltF, eqT, eqF, nI_add, pk_mul, sbI, s1I, orI, dfI, Nat.reduceAdd, Nat.reduceMul, Nat.zero_add, ↓reduceIte, if_true, if_false]
  · try dsimp only
    have : smN (fun a => bts (qrs B t a)) (B 0) ≤ B 0 * 16 := smN_le (fun k _ => bts_le _)
    rw [show (2 : Int32) = nI 2 from rfl, pk_div (by omega) (by omega) (by omega)]; rfl
theorem r_isThere (hB : blk (s.2.2.1 4) 0 B) (hw : wfB B) {t p : Nat} (ht : t < 65536) (hp : p < B 0) : pX12_isThere s (nI t) (nI p) = some (thr B t p) := by
  have h16 := hw.1
  have hb0 : s.2.2.1 4 (0 : Int32).toNatClampNeg = nI (B 0) := hB.1 0 (by omega)
  have v0 := hB.2 (2 + p)
  unfold pX12_isThere thr
  rw [hasT (by omega) (by omega), ob_s, r_kind hB (by omega), ob_s, show (0 : Int32) = nI 0 from rfl, ifE (by omega) (by omega)]
  cases e : t.testBit p with
  | false => rfl
  | true =>
    by_cases e2 : B (2 + p) = 0
    · rw [if_pos rfl, if_pos e2]
      refine bd (lp_any (fun x => t.testBit x && B (2 + x) == 1 && thB B x == p && !lo B t x && qrs B t x == 0) (B 0) (by omega) (fun k hk => ?_) ?_) ?_
      · dsimp only [X12_isThere_b21, X12_isThere_j79]
        have v1 := hB.2 (2 + k)
        have t1 := (thB_lt hw hk).1
        have q1 := qrs_lt hw t k
        rw [hb0, hasT (by omega) (by omega), ob_s, r_kind hB (by omega), ob_s, r_thingOf hB hw hk, ob_s, r_isLeftOut hB hw ht (by omega), ob_s, r_quarrelers hB hw ht hk, ob_s]
        simp (disch := omega) only [thn_eq, ob_s, se_l, se_r, li, lL, m1_i, nI_clamp, g_inT, leT, leF, ltT, ltF, eqT, eqF, nI_add, pk_mul, sbI, s1I, orI, dfI, Nat.reduceAdd, Nat.reduceMul, Nat.zero_add, ↓reduceIte, if_true, if_false, eqI]
        cases e : t.testBit k <;> by_cases e2 : B (2 + k) = 1 <;> by_cases e3 : thB B k = p <;> cases lo B t k <;> by_cases e4 : qrs B t k = 0 <;> simp [e2, e3, e4]
      · dsimp only [X12_isThere_b21]
        rw [hb0]
        simp (disch := omega) only [thn_eq, ob_s, se_l, se_r, li, lL, m1_i, nI_clamp, g_inT, leT, leF, ltT, ltF, eqT, eqF, nI_add, pk_mul, sbI, s1I, orI, dfI, Nat.reduceAdd, Nat.reduceMul, Nat.zero_add, ↓reduceIte, if_true, if_false]
      · rw [e2]
        cases anN _ (B 0) <;> rfl
    · rw [if_pos rfl, if_neg e2]
      have : (B (2 + p) == 0) = false := by simpa using e2
      rw [this]; rfl
theorem r_allHang (hB : blk (s.2.2.1 4) 0 B) (hw : wfB B) {hd x : Nat} (ht : hd < 65536) (hx : x < 16) : pX12_allHang s (nI hd) (nI x) = some (ahg B hd x) := by
  have h16 := hw.1
  have hb0 : s.2.2.1 4 (0 : Int32).toNatClampNeg = nI (B 0) := hB.1 0 (by omega)
  unfold pX12_allHang
  refine bd (lp_any (fun i => hd.testBit i && !(B (98 + i)).testBit x) (B 0) (by omega) (fun k hk => ?_) ?_) ?_
  · dsimp only [X12_allHang_b2, X12_allHang_j35]
    have v1 := hB.2 (98 + k)
    rw [hb0, hasT (by omega) (by omega), ob_s, r_hangsOn hB (by omega), ob_s, hasT (by omega) (by omega), ob_s]
    simp (disch := omega) only [thn_eq, ob_s, se_l, se_r, li, lL, m1_i, nI_clamp, g_inT, leT, leF, ltT, ltF, eqT, eqF, nI_add, pk_mul, sbI, s1I, orI, dfI, Nat.reduceAdd, Nat.reduceMul, Nat.zero_add, ↓reduceIte, if_true, if_false]
    cases hd.testBit k <;> cases (B (98 + k)).testBit x <;> simp
  · dsimp only [X12_allHang_b2]
    rw [hb0]
    simp (disch := omega) only [thn_eq, ob_s, se_l, se_r, li, lL, m1_i, nI_clamp, g_inT, leT, leF, ltT, ltF, eqT, eqF, nI_add, pk_mul, sbI, s1I, orI, dfI, Nat.reduceAdd, Nat.reduceMul, Nat.zero_add, ↓reduceIte, if_true, if_false]
  · unfold ahg
    cases anN _ (B 0) <;> rfl
end R
