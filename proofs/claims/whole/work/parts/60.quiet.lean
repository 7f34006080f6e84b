/-! LEAST OUT, MOST QUIET -/
def sbN (a b : Nat) : Prop := ∀ i, a.testBit i = true → b.testBit i = true
theorem sb_rf (a : Nat) : sbN a a := fun _ h => h
theorem sb_tr {a b c : Nat} (h : sbN a b) (k : sbN b c) : sbN a c := fun i q => k i (h i q)
theorem smN_mono {f g : Nat → Nat} : ∀ {n : Nat}, (∀ k, k < n → f k ≤ g k) → smN f n ≤ smN g n
  | 0, _ => Nat.le_refl _
  | n + 1, h => Nat.add_le_add (smN_mono (fun k hk => h k (by omega))) (h n (by omega))
theorem smN_lt {f g : Nat → Nat} {x : Nat} : ∀ {n : Nat}, (∀ k, k < n → f k ≤ g k) → x < n → f x < g x → smN f n < smN g n
  | 0, _, h, _ => absurd h (Nat.not_lt_zero _)
  | n + 1, h, hx, hl => by
    show smN f n + f n < smN g n + g n
    have h0 := h n (by omega)
    have h1 := smN_mono (n := n) (fun k hk => h k (by omega))
    by_cases e : x = n
    · subst e; omega
    · have := smN_lt (n := n) (fun k hk => h k (by omega)) (by omega) hl
      omega
theorem tn_le {a b : Bool} (h : a = true → b = true) : a.toNat ≤ b.toNat := by
  cases a <;> cases b <;> simp_all
theorem bts_mono {a b : Nat} (h : sbN a b) : bts a ≤ bts b := smN_mono (fun k _ => tn_le (h k))
theorem bts_lt {a b x : Nat} (h : sbN a b) (hx : x < 16) (h1 : b.testBit x = true) (h2 : a.testBit x = false) : bts a < bts b :=
  smN_lt (fun k _ => tn_le (h k)) hx (by show (a.testBit x).toNat < (b.testBit x).toNat; rw [h1, h2]; decide)
theorem bts_eq {a b : Nat} (h : sbN a b) (hb : b < 65536) (e : bts a = bts b) : a = b := by
  apply Nat.eq_of_testBit_eq
  intro i
  cases h1 : a.testBit i with
  | true => exact (h i h1).symm
  | false =>
    cases h2 : b.testBit i with
    | false => rfl
    | true =>
      have := bts_lt h (tb_lt (n := 16) hb h2) h2 h1
      omega
theorem hg_tr {B : Nat → Nat} (hw : wfB B) : ∀ {k : Nat}, k < B 0 → ∀ {j i : Nat}, (B (98 + k)).testBit j = true → (B (98 + j)).testBit i = true → (B (98 + k)).testBit i = true := by
  intro k
  induction k using Nat.strongRecOn with
  | ind k ih =>
    intro hk j i hj hi
    have hh := (hw.2.2 k hk).2.2.2.1
    have hlt := (hw.2.2 k hk).2.2.1
    rw [hh] at hj
    rw [hh]
    rcases Bool.or_eq_true_iff.mp hj with q | q
    · have : j < k := tb_lt hlt q
      rw [Bool.or_eq_true]
      exact Or.inr (anN_iff.mpr ⟨j, this, by rw [q, hi]; rfl⟩)
    · obtain ⟨m, hm, hq⟩ := anN_iff.mp q
      obtain ⟨q1, q2⟩ := Bool.and_eq_true_iff.mp hq
      rw [Bool.or_eq_true]
      exact Or.inr (anN_iff.mpr ⟨m, hm, by rw [q1, ih m hm (by omega) q2 hi]; rfl⟩)
theorem lk_tb (B : Nat → Nat) (t i : Nat) : (lk B t).testBit i = (anN (fun k => t.testBit k && (B (98 + k)).testBit i) (B 0) && !t.testBit i) := by
  unfold lk ned
  rw [bdf_tb, orN_tb]
  congr 1
  apply anN_cg
  intro k hk
  cases t.testBit k with
  | true => rw [if_pos rfl, Bool.true_and]
  | false => rw [if_neg (by decide), Nat.zero_testBit]; rfl
theorem lk_iff {B : Nat → Nat} {t : Nat} : lk B t = 0 ↔ ∀ k, k < B 0 → t.testBit k = true → ∀ i, (B (98 + k)).testBit i = true → t.testBit i = true := by
  constructor
  · intro h k hk h1 i hi
    have := lk_tb B t i
    rw [h, Nat.zero_testBit] at this
    cases e : t.testBit i with
    | true => rfl
    | false =>
      rw [e, anN_iff.mpr ⟨k, hk, by rw [h1, hi]; rfl⟩] at this
      cases this
  · intro h
    apply Nat.eq_of_testBit_eq
    intro i
    rw [lk_tb, Nat.zero_testBit]
    cases e : anN (fun k => t.testBit k && (B (98 + k)).testBit i) (B 0) with
    | false => rfl
    | true =>
      obtain ⟨k, hk, hq⟩ := anN_iff.mp e
      obtain ⟨q1, q2⟩ := Bool.and_eq_true_iff.mp hq
      rw [h k hk q1 i q2]; rfl
theorem stl_sym (B : Nat → Nat) (t a b : Nat) : stl B t a b = stl B t b a := by
  unfold stl
  apply anN_cg
  intro k _
  rw [Bool.or_comm]
theorem qr_sym (B : Nat → Nat) (t a b : Nat) : qr B t a b = qr B t b a := by
  unfold qr
  rw [wq_sym, stl_sym]
  cases t.testBit a <;> cases t.testBit b <;> rfl
theorem qr_self (B : Nat → Nat) (t a : Nat) : qr B t a a = false := by
  unfold qr
  rw [wq_self]; simp
def qt (B : Nat → Nat) (t : Nat) : Bool := alN (fun c => qrs B t c == 0) (B 0)
theorem qt_iff {B : Nat → Nat} {t : Nat} : qt B t = true ↔ ∀ a b, a < B 0 → b < B 0 → qr B t a b = false := by
  unfold qt
  rw [alN_iff]
  constructor
  · intro h a b ha hb
    have h1 : qrs B t a = 0 := by simpa using h a ha
    have h2 : (qrs B t a).testBit b = (decide (b < B 0) && qr B t a b) := mkN_tb _ _ _
    rw [h1, Nat.zero_testBit, decide_eq_true hb] at h2
    simpa using h2.symm
  · intro h a ha
    have : qrs B t a = 0 := by
      apply Nat.eq_of_testBit_eq
      intro b
      rw [Nat.zero_testBit]
      show (mkN _ _).testBit b = false
      rw [mkN_tb]
      by_cases hb : b < B 0
      · rw [h a b ha hb]; simp
      · rw [decide_eq_false hb]; rfl
    rw [this]; rfl
theorem qsm_qt {B : Nat → Nat} (hw : wfB B) (t : Nat) : (qsm B t / 2 = 0) ↔ qt B t = true := by
  have h16 := hw.1
  have he : qsm B t = 2 * smN (fun a => smN (fun b => (qr B t a b).toNat) a) (B 0) := by
    rw [← smN_sym (f := fun a b => (qr B t a b).toNat) (fun a b => by rw [qr_sym]) (fun a => by rw [qr_self]; rfl) (B 0)]
    exact smN_cg (fun k _ => bts_mk h16)
  constructor
  · intro h
    have h0 : qsm B t = 0 := by omega
    unfold qt
    rw [alN_iff]
    intro c hc
    have := smN_0 h0 c hc
    rw [bts_0 (qrs_lt hw t c) this]; rfl
  · intro h
    have h0 : qsm B t = 0 := by
      have : qsm B t ≤ B 0 * 0 := smN_le (fun c hc => by
        have h1 : qrs B t c = 0 := by
          have := alN_iff.mp h c hc
          simpa using this
        rw [h1]; decide)
      omega
    rw [h0]
theorem qr_sub {B : Nat → Nat} {L Q a b : Nat} (h : sbN Q L) (hq : qr B L a b = true) (ha : Q.testBit a = true) (hb : Q.testBit b = true) : qr B Q a b = true := by
  unfold qr at hq ⊢
  simp only [Bool.and_eq_true, Bool.not_eq_true'] at hq
  obtain ⟨⟨⟨h1, h2⟩, h3⟩, h4⟩ := hq
  rw [ha, hb, h3]
  have : stl B Q a b = false := by
    unfold stl at h4 ⊢
    rw [anN_f] at h4 ⊢
    intro k hk
    have := h4 k hk
    cases e : Q.testBit k with
    | false => rfl
    | true =>
      rw [h k e] at this
      exact this
  rw [this]; rfl
/-- what may be taken out of w -/
def gdO (B : Nat → Nat) (w b : Nat) : Prop := sbN b w ∧ lk B (bdf w b) = 0 ∧ qt B (bdf w b) = true
def le2 (a b : Nat) : Prop := bts a < bts b ∨ (bts a = bts b ∧ a ≤ b)
theorem le2_rf (a : Nat) : le2 a a := Or.inr ⟨rfl, Nat.le_refl _⟩
theorem le2_tr {a b c : Nat} (h : le2 a b) (k : le2 b c) : le2 a c := by
  unfold le2 at *; omega
theorem le2_as {a b : Nat} (h : le2 a b) (k : le2 b a) : a = b := by
  unfold le2 at *; omega
theorem bdf_bdf {w L : Nat} (h : sbN L w) : bdf w (bdf w L) = L := by
  apply Nat.eq_of_testBit_eq
  intro i
  rw [bdf_tb, bdf_tb]
  cases e : L.testBit i with
  | true => rw [h i e]; rfl
  | false => cases w.testBit i <;> rfl
theorem sb_bdf (w L : Nat) : sbN (bdf w L) w := fun i h => by
  rw [bdf_tb] at h
  exact (Bool.and_eq_true_iff.mp h).1
theorem bdf_anti {w L Q : Nat} (h : sbN Q L) : sbN (bdf w L) (bdf w Q) := fun i q => by
  rw [bdf_tb] at q ⊢
  obtain ⟨q1, q2⟩ := Bool.and_eq_true_iff.mp q
  rw [q1]
  cases e : Q.testBit i with
  | false => rfl
  | true =>
    rw [h i e] at q2; cases q2
def otN (B : Nat → Nat) (L qs : Nat) : Nat → Nat
  | 0 => L
  | c + 1 => if qs.testBit c then bdf (otN B L qs c) (hgr B c ||| 2 ^ c) else otN B L qs c
theorem otN_tb (B : Nat → Nat) (L qs i : Nat) : ∀ n, (otN B L qs n).testBit i = (L.testBit i && !anN (fun c => qs.testBit c && (hgr B c ||| 2 ^ c).testBit i) n)
  | 0 => by simp [otN, anN]
  | n + 1 => by
    rw [anN_s]
    show (if qs.testBit n then bdf (otN B L qs n) (hgr B n ||| 2 ^ n) else otN B L qs n).testBit i = _
    cases qs.testBit n with
    | false => rw [if_neg (by decide), otN_tb B L qs i n, Bool.false_and, Bool.or_false]
    | true =>
      rw [if_pos rfl, bdf_tb, otN_tb B L qs i n]
      cases L.testBit i <;> cases anN (fun c => qs.testBit c && (hgr B c ||| 2 ^ c).testBit i) n <;> cases (hgr B n ||| 2 ^ n).testBit i <;> rfl
theorem hgr_tb {B : Nat → Nat} {x i : Nat} (hi : i < B 0) : (hgr B x ||| 2 ^ x).testBit i = ((B (98 + i)).testBit x || decide (x = i)) := by
  rw [Nat.testBit_or, hgr, mkN_tb, p2_tb, decide_eq_true hi, Bool.true_and]
theorem hgr_tb' {B : Nat → Nat} {x i : Nat} (hx : x < B 0) (h : (hgr B x ||| 2 ^ x).testBit i = true) : i < B 0 := by
  rw [Nat.testBit_or, hgr, mkN_tb, p2_tb] at h
  rcases Bool.or_eq_true_iff.mp h with q | q
  · exact of_decide_eq_true (Bool.and_eq_true_iff.mp q).1
  · have := of_decide_eq_true q
    omega
/-- without one and all that hang on it, it still holds -/
theorem lk_out {B : Nat → Nat} (hw : wfB B) {L x : Nat} (hL : ∀ i, L.testBit i = true → i < B 0) (hc : lk B L = 0) : lk B (bdf L (hgr B x ||| 2 ^ x)) = 0 := by
  rw [lk_iff] at hc ⊢
  intro k hk h1 i hi
  rw [bdf_tb] at h1 ⊢
  obtain ⟨q1, q2⟩ := Bool.and_eq_true_iff.mp h1
  have h3 := hc k hk q1 i hi
  have hi0 := hL i h3
  rw [hgr_tb hk] at q2
  rw [h3, hgr_tb hi0]
  cases e : ((B (98 + i)).testBit x || decide (x = i)) with
  | false => rfl
  | true =>
    exfalso
    have : ((B (98 + k)).testBit x || decide (x = k)) = true := by
      rcases Bool.or_eq_true_iff.mp e with q | q
      · rw [hg_tr hw hk hi q]; rfl
      · have := of_decide_eq_true q
        subst this
        rw [hi]; rfl
    rw [this] at q2; cases q2
theorem otN_lk {B : Nat → Nat} (hw : wfB B) {L qs : Nat} (hL : ∀ i, L.testBit i = true → i < B 0) (hc : lk B L = 0) : ∀ n, lk B (otN B L qs n) = 0
  | 0 => hc
  | n + 1 => by
    show lk B (if qs.testBit n then bdf (otN B L qs n) (hgr B n ||| 2 ^ n) else otN B L qs n) = 0
    split
    · exact lk_out hw (fun i h => hL i (by rw [otN_tb] at h; exact (Bool.and_eq_true_iff.mp h).1)) (otN_lk hw hL hc n)
    · exact otN_lk hw hL hc n
section Q
variable {r : RS} {B : Nat → Nat}
theorem x_mostQ (hR : bkR B r) (hw : wfB B) {t : Nat} (ht : t < 65536) : (pX0_mostQuarrelling r (nI t) = some m1I ∧ qt B t = true) ∨ ∃ x, x < B 0 ∧ qrs B t x ≠ 0 ∧ pX0_mostQuarrelling r (nI t) = some (nI x) := by
  have h16 := hw.1
  unfold pX0_mostQuarrelling
  obtain ⟨y, h1, h2⟩ := lp_m (body := fun (q : Int32 × Int32 × Int32) => X0_mostQuarrelling_b7 (nI t) q.1 q.2.1 q.2.2 r) (I := fun m q => ∃ k, k ≤ B 0 ∧ m = B 0 - k ∧ ((q = (m1I, nI 0, nI k) ∧ ∀ j, j < k → qrs B t j = 0) ∨ ∃ x, x < B 0 ∧ qrs B t x ≠ 0 ∧ q = (nI x, nI (bts (qrs B t x)), nI k))) (P := fun y => (y = m1I ∧ qt B t = true) ∨ ∃ x, x < B 0 ∧ qrs B t x ≠ 0 ∧ y = nI x) (fun m q hi => by
    obtain ⟨k, hk, rfl, hq⟩ := hi
    rcases Nat.lt_or_eq_of_le hk with c | c
    · left
      have b1 := bts_le (qrs B t k)
      have step : ∀ (v : Int32) (n : Nat), n ≤ 16 → X0_mostQuarrelling_b7 (nI t) v (nI n) (nI k) r = if bts (qrs B t k) ≤ n then some (.inl (v, nI n, nI (k + 1))) else some (.inl (nI k, nI (bts (qrs B t k)), nI (k + 1))) := by
        intro v n hn
        dsimp only [X0_mostQuarrelling_b7, X0_mostQuarrelling_j40]
        rw [hR.2.1, if_neg (nI_ge c (by omega)), x_quarrelersOf hR hw ht c, ob_s, bcT (qrs_lt hw _ _), ob_s, ifLe (by omega) (by omega)]
        simp only [thn_eq, nI_1]
      rcases hq with ⟨rfl, hz⟩ | ⟨x, hx, hx0, rfl⟩
      · have st := step m1I 0 (by omega)
        by_cases e : bts (qrs B t k) ≤ 0
        · rw [if_pos e] at st
          refine ⟨B 0 - (k + 1), _, by omega, ⟨k + 1, by omega, rfl, Or.inl ⟨rfl, fun j hj => ?_⟩⟩, st⟩
          by_cases q : j = k
          · rw [q]; exact bts_0 (qrs_lt hw _ _) (by omega)
          · exact hz j (by omega)
        · rw [if_neg e] at st
          refine ⟨B 0 - (k + 1), _, by omega, ⟨k + 1, by omega, rfl, Or.inr ⟨k, c, fun q => ?_, rfl⟩⟩, st⟩
          rw [q] at e
          exact e (by decide)
      · have st := step (nI x) (bts (qrs B t x)) (bts_le _)
        by_cases e : bts (qrs B t k) ≤ bts (qrs B t x)
        · rw [if_pos e] at st
          exact ⟨B 0 - (k + 1), _, by omega, ⟨k + 1, by omega, rfl, Or.inr ⟨x, hx, hx0, rfl⟩⟩, st⟩
        · rw [if_neg e] at st
          refine ⟨B 0 - (k + 1), _, by omega, ⟨k + 1, by omega, rfl, Or.inr ⟨k, c, fun q => ?_, rfl⟩⟩, st⟩
          rw [q] at e
          exact e (by rw [show bts 0 = 0 by decide]; exact Nat.zero_le _)
    · subst c
      right
      rcases hq with ⟨rfl, hz⟩ | ⟨x, hx, hx0, rfl⟩
      · refine ⟨m1I, Or.inl ⟨rfl, ?_⟩, ?_⟩
        · unfold qt
          rw [alN_iff]
          intro c hc
          rw [hz c hc]; rfl
        · dsimp only [X0_mostQuarrelling_b7]
          rw [hR.2.1, if_pos (nI_le (Nat.le_refl _) (by omega))]
      · refine ⟨nI x, Or.inr ⟨x, hx, hx0, rfl⟩, ?_⟩
        dsimp only [X0_mostQuarrelling_b7]
        rw [hR.2.1, if_pos (nI_le (Nat.le_refl _) (by omega))]) FU (B 0) (m1I, nI 0, nI 0) (by show B 0 < 100000; omega) ⟨0, Nat.zero_le _, rfl, Or.inl ⟨rfl, fun j h => absurd h (Nat.not_lt_zero _)⟩⟩
  rcases h2 with ⟨rfl, h2⟩ | ⟨x, hx, hx0, rfl⟩
  · exact Or.inl ⟨bd h1 rfl, h2⟩
  · exact Or.inr ⟨x, hx, hx0, bd h1 rfl⟩
theorem x_keep {q : RS} {w b o : Nat} (h1 : q.1 1 = nI w) (h2 : q.1 2 = nI b) (hb : b < 65536) (ho : o < 65536) : ∃ q' b', pX6_keepBetter q (nI o) = some q' ∧ q'.1 1 = nI w ∧ q'.1 2 = nI b' ∧ (b' = b ∨ b' = o) ∧ le2 b' b ∧ le2 b' o := by
  have c1 := bts_le o
  have c2 := bts_le b
  unfold pX6_keepBetter
  rw [h2, bcT ho, ob_s, bcT hb, ob_s, ifLt (by omega) (by omega), ifE (by omega) (by omega), ifLe (by omega) (by omega)]
  by_cases e1 : bts o < bts b
  · rw [if_pos e1]
    exact ⟨uI q 2 (nI o), o, rfl, h1, rfl, Or.inr rfl, Or.inl e1, le2_rf o⟩
  · rw [if_neg e1]
    by_cases e2 : bts o = bts b
    · rw [if_pos e2]
      by_cases e3 : b ≤ o
      · rw [if_pos e3]
        exact ⟨q, b, rfl, h1, h2, Or.inl rfl, le2_rf b, Or.inr ⟨e2.symm, e3⟩⟩
      · rw [if_neg e3]
        exact ⟨uI q 2 (nI o), o, rfl, h1, rfl, Or.inr rfl, Or.inr ⟨e2, by omega⟩, le2_rf o⟩
    · rw [if_neg e2]
      exact ⟨q, b, rfl, h1, h2, Or.inl rfl, le2_rf b, Or.inl (by omega)⟩
theorem x_others (rc : RS → RS → Int32 → Int32 → Option RS) (hR : bkR B r) (hw : wfB B) {L qs : Nat} (hqs : qs < 65536) (v2 : Int32) (x6 : RS) : a_loop (fun (q : Int32 × Int32) => X6_seek_b87 rc v2 (nI qs) q.1 q.2 x6 r) FU (nI L, (0 : Int32)) = some (nI (otN B L qs (B 0))) := by
  have h16 := hw.1
  refine lp_acc (fun k => otN B L qs k) (B 0) (by omega) (fun k hk => ?_) ?_
  · dsimp only [X6_seek_b87, X6_seek_j122]
    rw [hR.2.1, if_neg (nI_ge hk (by omega)), isInT (by omega) (by omega), ob_s, x_without hR hw hk, ob_s]
    simp only [thn_eq, nI_1]
    have e : otN B L qs (k + 1) = if qs.testBit k then bdf (otN B L qs k) (hgr B k ||| 2 ^ k) else otN B L qs k := rfl
    rw [e]
    cases qs.testBit k <;> rfl
  · dsimp only [X6_seek_b87]
    rw [hR.2.1, if_pos (nI_le (Nat.le_refl _) (by omega))]
/-- the search meets every best set -/
theorem x_seek (hR : bkR B r) (hw : wfB B) {w : Nat} (hw2 : w < 2 ^ B 0) : ∀ (n dp L : Nat) (q : RS) (b : Nat), q.1 1 = nI w → q.1 2 = nI b → sbN L w → lk B L = 0 → gdO B w b → dp ≤ bts (bdf w L) → 18 ≤ n + dp → ∃ q' b', pX6_seek n q r (nI L) (nI dp) = some q' ∧ q'.1 1 = nI w ∧ q'.1 2 = nI b' ∧ gdO B w b' ∧ le2 b' b ∧ ∀ Q, sbN Q L → lk B Q = 0 → qt B Q = true → le2 b' (bdf w Q)
  | 0, dp, L, q, b, _, _, _, _, _, hd, hn => absurd (bts_le (bdf w L)) (by omega)
  | n + 1, dp, L, q, b, h1, h2, hL, hc, hg, hd, hn => by
    have h16 := hw.1
    have p16 : 2 ^ B 0 ≤ 2 ^ 16 := Nat.pow_le_pow_right (by decide) h16
    have w16 : w < 65536 := by omega
    have sub16 : ∀ {a}, sbN a w → a < 65536 := fun {a} ha => lt_of_tb (n := 16) (fun i hi => by
      cases e : a.testBit i with
      | false => rfl
      | true =>
        have := ha i e
        rw [tbF (n := 16) w16 hi] at this; cases this)
    have inB : ∀ {a}, sbN a w → ∀ i, a.testBit i = true → i < B 0 := fun {a} ha i hi => tb_lt hw2 (ha i hi)
    have hd16 := bts_le (bdf w L)
    have o16 : bdf w L < 65536 := bdf_lt (n := 16) w16
    have bb := bts_le b
    show ∃ q' b', pX6_seek_f (pX6_seek n) q r (nI L) (nI dp) = some q' ∧ _
    unfold pX6_seek_f
    rw [thn_eq, h1, h2, show (-1 : Int32) = m1I from rfl, dfI, if_neg (show ¬ (16 : Int32) < nI dp from nI_nlt (a := 16) (by omega) (by omega)), bcT o16, ob_s, bcT (sub16 hg.1), ob_s, ifLe (by omega) (by omega)]
    by_cases e1 : bts (bdf w L) ≤ bts b
    · rw [if_pos e1]
      rcases x_mostQ hR hw (sub16 hL) with ⟨e2, hq⟩ | ⟨x, hx, hx0, e2⟩
      · rw [e2, ob_s, if_pos rfl]
        obtain ⟨q', b', k1, k2, k3, k4, k5, k6⟩ := x_keep (o := bdf w L) h1 h2 (sub16 hg.1) o16
        rw [k1, ob_s]
        refine ⟨q', b', rfl, k2, k3, ?_, k5, fun Q hQ hQ1 hQ2 => le2_tr k6 ?_⟩
        · rcases k4 with rfl | rfl
          · exact hg
          · exact ⟨sb_bdf _ _, by rw [bdf_bdf hL]; exact hc, by rw [bdf_bdf hL]; exact hq⟩
        · have sb := bdf_anti (w := w) hQ
          have := bts_mono sb
          rcases Nat.lt_or_eq_of_le this with c | c
          · exact Or.inl c
          · have e := bts_eq sb (bdf_lt (n := 16) w16) c
            rw [e]; exact le2_rf _
      · have hq16 := qrs_lt hw L x
        have tx : L.testBit x = true := by
          cases e : L.testBit x with
          | true => rfl
          | false =>
            exfalso; apply hx0
            apply Nat.eq_of_testBit_eq
            intro i
            rw [qrs, mkN_tb, qr, e, Nat.zero_testBit]; simp
        obtain ⟨y, hy⟩ : ∃ y, (qrs B L x).testBit y = true := by
          by_cases h : ∃ y, (qrs B L x).testBit y = true
          · exact h
          · exfalso; apply hx0
            apply Nat.eq_of_testBit_eq
            intro i
            rw [Nat.zero_testBit]
            cases e : (qrs B L x).testBit i with
            | false => rfl
            | true => exact absurd ⟨i, e⟩ h
        have qr_of : ∀ z, (qrs B L x).testBit z = true → z < B 0 ∧ qr B L x z = true := fun z hz => by
          rw [qrs, mkN_tb] at hz
          obtain ⟨z1, z2⟩ := Bool.and_eq_true_iff.mp hz
          exact ⟨of_decide_eq_true z1, z2⟩
        have in_of : ∀ z, (qrs B L x).testBit z = true → L.testBit z = true := fun z hz => by
          have := (qr_of z hz).2
          unfold qr at this
          simp only [Bool.and_eq_true] at this
          exact this.1.1.2
        rw [e2, ob_s, if_neg (by rw [m1_ne (by omega)]; exact not_false), x_without hR hw hx, ob_s, show (1 : Int32) = nI 1 from rfl, nI_add]
        have sA : sbN (bdf L (hgr B x ||| 2 ^ x)) L := sb_bdf _ _
        have sAw := sb_tr sA hL
        have dA : dp + 1 ≤ bts (bdf w (bdf L (hgr B x ||| 2 ^ x))) := by
          have := bts_lt (bdf_anti (w := w) sA) (x := x) (by omega) (by
            rw [bdf_tb, bdf_tb, hL x tx, hgr_tb hx]; simp) (by rw [bdf_tb, tx]; simp)
          omega
        obtain ⟨q1, b1, a1, a2, a3, a4, a5, a6⟩ := x_seek hR hw hw2 n (dp + 1) (bdf L (hgr B x ||| 2 ^ x)) q b h1 h2 sAw (lk_out hw (inB hL) hc) hg dA (by omega)
        rw [a1, ob_s, x_quarrelersOf hR hw (sub16 hL) hx, ob_s]
        have sO : sbN (otN B L (qrs B L x) (B 0)) L := fun i hi => by
          rw [otN_tb] at hi
          exact (Bool.and_eq_true_iff.mp hi).1
        have sOw := sb_tr sO hL
        have y0 := (qr_of y hy).1
        have dO : dp + 1 ≤ bts (bdf w (otN B L (qrs B L x) (B 0))) := by
          have := bts_lt (bdf_anti (w := w) sO) (x := y) (by omega) (by
            rw [bdf_tb, otN_tb, hL y (in_of y hy), anN_iff.mpr ⟨y, y0, by rw [hy, hgr_tb y0]; simp⟩]; simp) (by rw [bdf_tb, in_of y hy]; simp)
          omega
        obtain ⟨q2, b2, c1, c2, c3, c4, c5, c6⟩ := x_seek hR hw hw2 n (dp + 1) (otN B L (qrs B L x) (B 0)) q1 b1 a2 a3 sOw (otN_lk hw (inB hL) hc _) a4 dO (by omega)
        refine ⟨q2, b2, bd (x_others _ hR hw hq16 _ _) (bd c1 rfl), c2, c3, c4, le2_tr c5 a5, fun Q hQ hQ1 hQ2 => ?_⟩
        rw [lk_iff] at hQ1
        cases ex : Q.testBit x with
        | false =>
          refine le2_tr c5 (a6 Q (fun i hi => ?_) (lk_iff.mpr hQ1) hQ2)
          have hi0 := inB (sb_tr hQ hL) i hi
          rw [bdf_tb, hQ i hi, hgr_tb hi0]
          cases e3 : ((B (98 + i)).testBit x || decide (x = i)) with
          | false => rfl
          | true =>
            exfalso
            rcases Bool.or_eq_true_iff.mp e3 with z | z
            · rw [hQ1 i hi0 hi x z] at ex; cases ex
            · have := of_decide_eq_true z
              subst this
              rw [hi] at ex; cases ex
        | true =>
          refine c6 Q (fun i hi => ?_) (lk_iff.mpr hQ1) hQ2
          have hi0 := inB (sb_tr hQ hL) i hi
          rw [otN_tb, hQ i hi]
          cases e3 : anN (fun c => (qrs B L x).testBit c && (hgr B c ||| 2 ^ c).testBit i) (B 0) with
          | false => rfl
          | true =>
            exfalso
            obtain ⟨z, hz, e4⟩ := anN_iff.mp e3
            obtain ⟨e5, e6⟩ := Bool.and_eq_true_iff.mp e4
            rw [hgr_tb hi0] at e6
            have hzQ : Q.testBit z = true := by
              rcases Bool.or_eq_true_iff.mp e6 with v | v
              · exact hQ1 i hi0 hi z v
              · rw [of_decide_eq_true v]; exact hi
            have := qr_sub hQ (qr_of z e5).2 ex hzQ
            rw [qt_iff.mp hQ2 x z hx hz] at this; cases this
    · rw [if_neg e1]
      refine ⟨q, b, rfl, h1, h2, hg, le2_rf b, fun Q hQ _ _ => Or.inl ?_⟩
      have := bts_mono (bdf_anti (w := w) hQ)
      omega
end Q
