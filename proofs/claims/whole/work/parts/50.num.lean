/-! NUMBERS: ints as Nats, loops, masks -/
theorem ob_s {α β : Type} (a : α) (f : α → Option β) : (some a).bind f = f a := rfl
theorem ob_n {α β : Type} (f : α → Option β) : (none : Option α).bind f = none := rfl
theorem se_l {α β γ : Type} (f : α → γ) (g : β → γ) (a : α) : Sum.elim f g (.inl a) = f a := rfl
theorem se_r {α β γ : Type} (f : α → γ) (g : β → γ) (b : β) : Sum.elim f g (.inr b) = g b := rfl
theorem li (n : Nat) : (OfNat.ofNat n : Int32) = nI (OfNat.ofNat n) := rfl
theorem lL (n : Nat) : (OfNat.ofNat n : Int64) = lN (OfNat.ofNat n) := rfl
def m1I : Int32 := -1
theorem m1_i : -nI 1 = m1I := rfl
theorem m1_lt {n : Nat} (h : n < 2 ^ 31) : (m1I < nI n) = True := eq_true (by rw [Int32.lt_iff_toInt_lt, nI_toInt h]; show (-1 : Int) < n; omega)
theorem m1_le {n : Nat} (h : n < 2 ^ 31) : (m1I ≤ nI n) = True := eq_true (by rw [Int32.le_iff_toInt_le, nI_toInt h]; show (-1 : Int) ≤ n; omega)
theorem m1_nlt {n : Nat} (h : n < 2 ^ 31) : (nI n < m1I) = False := eq_false (by rw [Int32.lt_iff_toInt_lt, nI_toInt h]; show ¬ (n : Int) < -1; omega)
theorem m1_nle {n : Nat} (h : n < 2 ^ 31) : (nI n ≤ m1I) = False := eq_false (by rw [Int32.le_iff_toInt_le, nI_toInt h]; show ¬ (n : Int) ≤ -1; omega)
theorem m1_ne {n : Nat} (h : n < 2 ^ 31) : (nI n = m1I) = False := eq_false (by rw [← Int32.toInt_inj, nI_toInt h]; show ¬ (n : Int) = -1; omega)
theorem m1_ne' {n : Nat} (h : n < 2 ^ 31) : (m1I = nI n) = False := eq_false (by rw [← Int32.toInt_inj, nI_toInt h]; show ¬ (-1 : Int) = n; omega)
theorem m1_1 : m1I + nI 1 = nI 0 := by decide +kernel
theorem leT {a b : Nat} (h : a ≤ b) (hb : b < 2 ^ 31) : (nI a ≤ nI b) = True := eq_true (nI_le h hb)
theorem leF {a b : Nat} (h : b < a) (ha : a < 2 ^ 31) : (nI a ≤ nI b) = False := eq_false (nI_ge h ha)
theorem ltT {a b : Nat} (h : a < b) (hb : b < 2 ^ 31) : (nI a < nI b) = True := eq_true (nI_lt h hb)
theorem ltF {a b : Nat} (h : b ≤ a) (ha : a < 2 ^ 31) : (nI a < nI b) = False := eq_false (nI_nlt h ha)
theorem eqT {a b : Nat} (h : a = b) : (nI a = nI b) = True := eq_true (by rw [h])
theorem eqF {a b : Nat} (h : a ≠ b) (ha : a < 2 ^ 31) (hb : b < 2 ^ 31) : (nI a = nI b) = False := eq_false (fun q => h ((nI_eq ha hb).mp q))
theorem eqI {a b : Nat} (ha : a < 2 ^ 31) (hb : b < 2 ^ 31) : (nI a = nI b) = (a = b) := propext (nI_eq ha hb)
theorem leI {a b : Nat} (ha : a < 2 ^ 31) (hb : b < 2 ^ 31) : (nI a ≤ nI b) = (a ≤ b) := propext (nI_leI ha hb)
theorem ltI {a b : Nat} (ha : a < 2 ^ 31) (hb : b < 2 ^ 31) : (nI a < nI b) = (a < b) := propext (nI_ltI ha hb)
theorem g_inT {γ : Type} {a n : Nat} {e : Option γ} (h : a < n) (hn : n < 2 ^ 31) : g_in (nI a) n e = e := if_neg (nI_in h hn)
theorem sbI {a b : Nat} (h : b ≤ a) : nI a - nI b = nI (a - b) := pk_sub h
theorem m1_ad {a : Nat} (h : 0 < a) : nI a + m1I = nI (a - 1) := sb_m1 h
theorem s1I {k : Nat} (h : k < 31) : nI 1 <<< (nI k &&& nI 31) = nI (2 ^ k) := by
  show nI 1 <<< (nI k &&& 31) = nI (2 ^ k)
  rw [pk_shlN (n := 1) (nI k &&& 31) k ?_ ?_, Nat.one_mul]
  · have : ∀ k, k < 31 → ((nI k &&& 31).toBitVec.smod 32).toNat = k := by decide +kernel
    exact this k h
  · rw [Nat.one_mul]; exact Nat.lt_trans (Nat.pow_lt_pow_right (by decide) h) (by decide)
theorem shI {a k : Nat} (ha : a < 2 ^ 31) (h : k < 31) : nI a >>> (nI k &&& 31) = nI (a / 2 ^ k) := by
  have : ∀ k, k < 31 → ((nI k &&& 31).toBitVec.smod 32).toNat = k := by decide +kernel
  exact pk_shrN ha _ k (this k h)
theorem orI (a b : Nat) : nI a ||| nI b = nI (a ||| b) := by
  apply Int32.toBitVec_inj.mp
  show BitVec.ofNat 32 a ||| BitVec.ofNat 32 b = BitVec.ofNat 32 (a ||| b)
  apply BitVec.eq_of_getLsbD_eq
  intro i hi
  simp [BitVec.getLsbD_or, BitVec.getLsbD_ofNat, hi]
theorem anI (a b : Nat) : nI a &&& nI b = nI (a &&& b) := by
  apply Int32.toBitVec_inj.mp
  show BitVec.ofNat 32 a &&& BitVec.ofNat 32 b = BitVec.ofNat 32 (a &&& b)
  apply BitVec.eq_of_getLsbD_eq
  intro i hi
  simp [BitVec.getLsbD_and, BitVec.getLsbD_ofNat, hi]
def oI : Option Nat → Int32
  | none => m1I
  | some j => nI j
def bdf (a b : Nat) : Nat := a ^^^ (a &&& b)
theorem bdf_tb (a b i : Nat) : (bdf a b).testBit i = (a.testBit i && !b.testBit i) := by
  unfold bdf
  rw [Nat.testBit_xor, Nat.testBit_and]
  cases a.testBit i <;> cases b.testBit i <;> rfl
theorem bdf_lt {a b n : Nat} (h : a < 2 ^ n) : bdf a b < 2 ^ n := Nat.xor_lt_two_pow h (Nat.lt_of_le_of_lt Nat.and_le_left h)
theorem dfI {a b : Nat} : nI a &&& (nI b ^^^ m1I) = nI (bdf a b) := by
  apply Int32.toBitVec_inj.mp
  show BitVec.ofNat 32 a &&& (BitVec.ofNat 32 b ^^^ (-1 : Int32).toBitVec) = BitVec.ofNat 32 (bdf a b)
  have e : (-1 : Int32).toBitVec = BitVec.allOnes 32 := by decide
  rw [e]
  apply BitVec.eq_of_getLsbD_eq
  intro i hi
  rw [BitVec.getLsbD_and, BitVec.getLsbD_xor, BitVec.getLsbD_ofNat, BitVec.getLsbD_ofNat, BitVec.getLsbD_ofNat, BitVec.getLsbD_allOnes, bdf_tb, decide_eq_true hi]
  cases a.testBit i <;> cases b.testBit i <;> rfl
theorem b1I {a : Nat} (k : Nat) : nI (a / 2 ^ k) &&& nI 1 = nI ((a.testBit k).toNat) := by
  rw [anI, Nat.and_one_is_mod, Nat.testBit_eq_decide_div_mod_eq]
  congr 1
  rcases Nat.mod_two_eq_zero_or_one (a / 2 ^ k) with h | h <;> simp [h]
theorem tn1 (b : Bool) : (nI b.toNat = nI 1) = (b = true) := by cases b <;> simp <;> decide
theorem tn0 (b : Bool) : (nI b.toNat = nI 0) = (b = false) := by cases b <;> simp <;> decide
theorem ifT1 {γ : Type} (b : Bool) (x y : γ) : (if nI b.toNat = nI 1 then x else y) = if b = true then x else y := by cases b <;> rfl
theorem ifT0 {γ : Type} (b : Bool) (x y : γ) : (if nI b.toNat = nI 0 then x else y) = if b = true then y else x := by cases b <;> rfl
theorem ifE {γ : Type} {a b : Nat} {x y : γ} (ha : a < 2 ^ 31) (hb : b < 2 ^ 31) : (if nI a = nI b then x else y) = if a = b then x else y := by
  by_cases h : a = b
  · rw [if_pos h, if_pos (by rw [h])]
  · rw [if_neg h, if_neg (fun q => h ((nI_eq ha hb).mp q))]
theorem ifLe {γ : Type} {a b : Nat} {x y : γ} (ha : a < 2 ^ 31) (hb : b < 2 ^ 31) : (if nI a ≤ nI b then x else y) = if a ≤ b then x else y := by
  by_cases h : a ≤ b
  · rw [if_pos h, if_pos (nI_le h hb)]
  · rw [if_neg h, if_neg (nI_ge (by omega) ha)]
theorem ifLt {γ : Type} {a b : Nat} {x y : γ} (ha : a < 2 ^ 31) (hb : b < 2 ^ 31) : (if nI a < nI b then x else y) = if a < b then x else y := by
  by_cases h : a < b
  · rw [if_pos h, if_pos (nI_lt h hb)]
  · rw [if_neg h, if_neg (nI_nlt (by omega) ha)]
theorem hasT {a k : Nat} (ha : a < 2 ^ 31) (h : k < 31) : pX12_hasIn (nI a) (nI k) = some (a.testBit k) := by
  unfold pX12_hasIn
  rw [shI ha h, show (1 : Int32) = nI 1 from rfl, b1I, ifT1]
  cases a.testBit k <;> rfl
theorem isInT {a k : Nat} (ha : a < 2 ^ 31) (h : k < 31) : pX0_isIn (nI a) (nI k) = some (a.testBit k) := by
  unfold pX0_isIn
  rw [shI ha h, show (1 : Int32) = nI 1 from rfl, b1I, show (0 : Int32) = nI 0 from rfl, ifT0]
  cases a.testBit k <;> rfl
theorem tbF {a k n : Nat} (ha : a < 2 ^ n) (h : n ≤ k) : a.testBit k = false := Nat.testBit_lt_two_pow (Nat.lt_of_lt_of_le ha (Nat.pow_le_pow_right (by decide) h))
theorem tb_lt {a k n : Nat} (ha : a < 2 ^ n) (h : a.testBit k = true) : k < n := by
  rcases Nat.lt_or_ge k n with q | q
  · exact q
  · rw [tbF ha q] at h; cases h
theorem p2_lt {k n : Nat} (h : k < n) : 2 ^ k < 2 ^ n := Nat.pow_lt_pow_right (by decide) h
theorem p2_tb (k i : Nat) : (2 ^ k).testBit i = decide (k = i) := Nat.testBit_two_pow
theorem or_lt {a b n : Nat} (ha : a < 2 ^ n) (hb : b < 2 ^ n) : a ||| b < 2 ^ n := Nat.or_lt_two_pow ha hb
theorem an_lt {a n : Nat} (b : Nat) (ha : a < 2 ^ n) : a &&& b < 2 ^ n := Nat.lt_of_le_of_lt Nat.and_le_left ha
theorem lt_of_tb {a n : Nat} (h : ∀ i, n ≤ i → a.testBit i = false) : a < 2 ^ n := Nat.lt_pow_two_of_testBit a h
/-! loops -/
theorem lp_s {σ ξ : Type} {body : σ → Option (σ ⊕ ξ)} {n : Nat} {s s' : σ} (h : body s = some (.inl s')) : a_loop body (n + 1) s = a_loop body n s' := by
  show (body s).bind _ = _
  rw [h]; rfl
theorem lp_e {σ ξ : Type} {body : σ → Option (σ ⊕ ξ)} {n : Nat} {s : σ} {x : ξ} (h : body s = some (.inr x)) : a_loop body (n + 1) s = some x := by
  show (body s).bind _ = _
  rw [h]; rfl
theorem lp_n {σ ξ : Type} {body : σ → Option (σ ⊕ ξ)} (S : Nat → σ) {x : ξ} : ∀ (n N i : Nat), n < N → (∀ k, i ≤ k → k < i + n → body (S k) = some (.inl (S (k + 1)))) → body (S (i + n)) = some (.inr x) → a_loop body N (S i) = some x
  | 0, N, i, hN, _, he => by
    obtain ⟨M, rfl⟩ := Nat.exists_eq_succ_of_ne_zero (Nat.ne_of_gt hN)
    exact lp_e he
  | n + 1, N, i, hN, hs, he => by
    obtain ⟨M, rfl⟩ := Nat.exists_eq_succ_of_ne_zero (Nat.ne_of_gt (Nat.lt_of_le_of_lt (Nat.zero_le _) hN))
    rw [lp_s (hs i (Nat.le_refl _) (by omega))]
    refine lp_n S n M (i + 1) (by omega) (fun k h1 h2 => hs k (by omega) (by omega)) ?_
    rw [show i + 1 + n = i + (n + 1) by omega]
    exact he
/-- a loop that counts from 0 to n -/
theorem lp_f {σ ξ : Type} {body : σ → Option (σ ⊕ ξ)} (S : Nat → σ) {x : ξ} (n : Nat) (hn : n < 100000) (hs : ∀ k, k < n → body (S k) = some (.inl (S (k + 1)))) (he : body (S n) = some (.inr x)) : a_loop body FU (S 0) = some x :=
  lp_n S n FU 0 hn (fun k _ h => hs k (by omega)) (by rw [Nat.zero_add]; exact he)
theorem lp_fi {σ ξ : Type} {body : σ → Option (σ ⊕ ξ)} (S : Nat → σ) {x : ξ} (i n : Nat) (hn : n < 100000) (hs : ∀ k, i ≤ k → k < n → body (S k) = some (.inl (S (k + 1)))) (h : i ≤ n) (he : body (S n) = some (.inr x)) : a_loop body FU (S i) = some x :=
  lp_n S (n - i) FU i (by show _ < 100000; omega) (fun k h1 h2 => hs k h1 (by omega)) (by rw [show i + (n - i) = n by omega]; exact he)
/-- a loop with a measure -/
theorem lp_m {σ ξ : Type} {body : σ → Option (σ ⊕ ξ)} {I : Nat → σ → Prop} {P : ξ → Prop} (hb : ∀ m s, I m s → (∃ m' s', m' < m ∧ I m' s' ∧ body s = some (.inl s')) ∨ ∃ x, P x ∧ body s = some (.inr x)) : ∀ (N m : Nat) (s : σ), m < N → I m s → ∃ x, a_loop body N s = some x ∧ P x
  | 0, m, s, h, _ => absurd h (Nat.not_lt_zero _)
  | N + 1, m, s, h, hi => by
    rcases hb m s hi with ⟨m', s', h1, h2, h3⟩ | ⟨x, h1, h2⟩
    · rw [lp_s h3]
      exact lp_m hb N m' s' (by omega) h2
    · exact ⟨x, lp_e h2, h1⟩
/-! words for folds -/
def orN (f : Nat → Nat) : Nat → Nat
  | 0 => 0
  | n + 1 => orN f n ||| f n
def mkN (p : Nat → Bool) : Nat → Nat
  | 0 => 0
  | n + 1 => mkN p n ||| (if p n then 2 ^ n else 0)
def smN (f : Nat → Nat) : Nat → Nat
  | 0 => 0
  | n + 1 => smN f n + f n
def anN (p : Nat → Bool) : Nat → Bool
  | 0 => false
  | n + 1 => anN p n || p n
def alN (p : Nat → Bool) : Nat → Bool
  | 0 => true
  | n + 1 => alN p n && p n
theorem orN_tb (f : Nat → Nat) (i : Nat) : ∀ n, (orN f n).testBit i = anN (fun k => (f k).testBit i) n
  | 0 => Nat.zero_testBit i
  | n + 1 => by
    show (orN f n ||| f n).testBit i = _
    rw [Nat.testBit_or, orN_tb f i n]; rfl
theorem anN_iff {p : Nat → Bool} : ∀ {n : Nat}, anN p n = true ↔ ∃ k, k < n ∧ p k = true
  | 0 => ⟨fun h => (by cases h), fun ⟨k, h, _⟩ => absurd h (Nat.not_lt_zero _)⟩
  | n + 1 => by
    show (anN p n || p n) = true ↔ _
    rw [Bool.or_eq_true, anN_iff (n := n)]
    constructor
    · rintro (⟨k, h1, h2⟩ | h)
      · exact ⟨k, by omega, h2⟩
      · exact ⟨n, by omega, h⟩
    · rintro ⟨k, h1, h2⟩
      by_cases e : k = n
      · subst e; exact Or.inr h2
      · exact Or.inl ⟨k, by omega, h2⟩
theorem anN_f {p : Nat → Bool} {n : Nat} : anN p n = false ↔ ∀ k, k < n → p k = false := by
  rw [← Bool.not_eq_true, anN_iff]
  constructor
  · intro h k hk
    cases e : p k
    · rfl
    · exact absurd ⟨k, hk, e⟩ h
  · rintro h ⟨k, hk, e⟩
    rw [h k hk] at e; cases e
theorem alN_iff {p : Nat → Bool} : ∀ {n : Nat}, alN p n = true ↔ ∀ k, k < n → p k = true
  | 0 => ⟨fun _ k h => absurd h (Nat.not_lt_zero _), fun _ => rfl⟩
  | n + 1 => by
    show (alN p n && p n) = true ↔ _
    rw [Bool.and_eq_true, alN_iff (n := n)]
    constructor
    · rintro ⟨h1, h2⟩ k hk
      by_cases e : k = n
      · subst e; exact h2
      · exact h1 k (by omega)
    · intro h
      exact ⟨fun k hk => h k (by omega), h n (by omega)⟩
theorem mkN_tb (p : Nat → Bool) (i : Nat) : ∀ n, (mkN p n).testBit i = (decide (i < n) && p i)
  | 0 => by rw [show mkN p 0 = 0 from rfl, Nat.zero_testBit]; simp
  | n + 1 => by
    show (mkN p n ||| (if p n then 2 ^ n else 0)).testBit i = _
    rw [Nat.testBit_or, mkN_tb p i n]
    by_cases e : i = n
    · subst e
      cases h : p i <;> simp
    · have : (if p n = true then 2 ^ n else 0).testBit i = false := by
        split
        · rw [p2_tb]; simp; omega
        · exact Nat.zero_testBit i
      rw [this, Bool.or_false]
      congr 1
      apply decide_eq_decide.mpr
      omega
theorem mkN_lt (p : Nat → Bool) (n : Nat) : mkN p n < 2 ^ n := lt_of_tb (fun i hi => by rw [mkN_tb]; simp; omega)
theorem mkN_lt' {p : Nat → Bool} {n m : Nat} (h : n ≤ m) : mkN p n < 2 ^ m := Nat.lt_of_lt_of_le (mkN_lt p n) (Nat.pow_le_pow_right (by decide) h)
theorem orN_lt {f : Nat → Nat} {m : Nat} : ∀ {n : Nat}, (∀ k, k < n → f k < 2 ^ m) → orN f n < 2 ^ m
  | 0, _ => Nat.two_pow_pos m
  | n + 1, h => or_lt (orN_lt (fun k hk => h k (by omega))) (h n (by omega))
theorem mkN_cg {p q : Nat → Bool} : ∀ {n : Nat}, (∀ k, k < n → p k = q k) → mkN p n = mkN q n
  | 0, _ => rfl
  | n + 1, h => by
    show _ ||| _ = _ ||| _
    rw [mkN_cg (fun k hk => h k (by omega)), h n (by omega)]
theorem orN_cg {p q : Nat → Nat} : ∀ {n : Nat}, (∀ k, k < n → p k = q k) → orN p n = orN q n
  | 0, _ => rfl
  | n + 1, h => by
    show _ ||| _ = _ ||| _
    rw [orN_cg (fun k hk => h k (by omega)), h n (by omega)]
theorem smN_cg {p q : Nat → Nat} : ∀ {n : Nat}, (∀ k, k < n → p k = q k) → smN p n = smN q n
  | 0, _ => rfl
  | n + 1, h => by
    show _ + _ = _ + _
    rw [smN_cg (fun k hk => h k (by omega)), h n (by omega)]
theorem anN_cg {p q : Nat → Bool} : ∀ {n : Nat}, (∀ k, k < n → p k = q k) → anN p n = anN q n
  | 0, _ => rfl
  | n + 1, h => by
    show (_ || _) = (_ || _)
    rw [anN_cg (fun k hk => h k (by omega)), h n (by omega)]
theorem smN_le {f : Nat → Nat} {c : Nat} : ∀ {n : Nat}, (∀ k, k < n → f k ≤ c) → smN f n ≤ n * c
  | 0, _ => by rw [Nat.zero_mul]; exact Nat.le_refl _
  | n + 1, h => by
    have h1 := smN_le (n := n) (fun k hk => h k (by omega))
    have h2 := h n (by omega)
    show smN f n + f n ≤ _
    rw [Nat.add_mul, Nat.one_mul]; omega
/-- how many bits below 16 -/
def bts (t : Nat) : Nat := smN (fun k => (t.testBit k).toNat) 16
theorem bts_le (t : Nat) : bts t ≤ 16 := smN_le (f := fun k => (t.testBit k).toNat) (c := 1) (n := 16) (fun k _ => by cases t.testBit k <;> decide)
theorem bd {α β : Type} {e : Option α} {x : α} {f : α → Option β} {r : Option β} (h : e = some x) (k : f x = r) : e.bind f = r := by rw [h]; exact k
/-- loops that look for one -/
theorem lp_any {body : Int32 → Option (Int32 ⊕ (Unit ⊕ Unit))} (p : Nat → Bool) (n : Nat) (hn : n < 100000) (hs : ∀ k, k < n → body (nI k) = if p k then some (.inr (.inl ())) else some (.inl (nI (k + 1)))) (he : body (nI n) = some (.inr (.inr ()))) : a_loop body FU (nI 0) = some (if anN p n then .inl () else .inr ()) := by
  obtain ⟨x, h1, h2⟩ := lp_m (body := body) (I := fun m s => ∃ k, k ≤ n ∧ m = n - k ∧ s = nI k ∧ anN p k = false) (P := fun x => x = if anN p n then .inl () else .inr ()) (fun m s hi => by
    obtain ⟨k, hk, rfl, rfl, hp⟩ := hi
    rcases Nat.lt_or_eq_of_le hk with q | q
    · cases hpk : p k with
      | false =>
        refine Or.inl ⟨n - (k + 1), nI (k + 1), by omega, ⟨k + 1, by omega, rfl, rfl, ?_⟩, ?_⟩
        · show (anN p k || p k) = false
          rw [hp, hpk]; rfl
        · rw [hs k q, hpk]; rfl
      | true =>
        refine Or.inr ⟨.inl (), ?_, ?_⟩
        · rw [if_pos (anN_iff.mpr ⟨k, q, hpk⟩)]
        · rw [hs k q, hpk]; rfl
    · subst q
      exact Or.inr ⟨.inr (), by rw [hp]; rfl, he⟩) FU n (nI 0) (by exact hn) ⟨0, Nat.zero_le _, rfl, rfl, rfl⟩
  rw [h1, h2]
/-- the first one, or n -/
def fsN (p : Nat → Bool) : Nat → Nat
  | 0 => 0
  | n + 1 => if fsN p n < n then fsN p n else if p n then n else n + 1
theorem fsN_le (p : Nat → Bool) : ∀ n, fsN p n ≤ n
  | 0 => Nat.le_refl _
  | n + 1 => by
    unfold fsN
    have := fsN_le p n
    split
    · omega
    · split <;> omega
theorem fsN_no (p : Nat → Bool) : ∀ n k, k < fsN p n → p k = false
  | 0, k, h => absurd h (Nat.not_lt_zero _)
  | n + 1, k, h => by
    unfold fsN at h
    have h1 := fsN_le p n
    split at h
    · exact fsN_no p n k h
    · rename_i h2
      have e : fsN p n = n := by omega
      split at h
      · exact fsN_no p n k (by omega)
      · rename_i h3
        by_cases q : k = n
        · subst q; simpa using h3
        · exact fsN_no p n k (by omega)
theorem fsN_yes (p : Nat → Bool) : ∀ n, fsN p n < n → p (fsN p n) = true
  | 0, h => absurd h (Nat.not_lt_zero _)
  | n + 1, h => by
    have h0 : fsN p (n + 1) = if fsN p n < n then fsN p n else if p n then n else n + 1 := rfl
    rw [h0] at h ⊢
    split at h
    · rename_i h2
      rw [if_pos h2]; exact fsN_yes p n h2
    · rename_i h2
      rw [if_neg h2]
      split at h
      · rename_i h3; rw [if_pos h3]; exact h3
      · omega
theorem fsN_eq {p : Nat → Bool} {n k : Nat} (hk : k ≤ n) (h1 : ∀ j, j < k → p j = false) (h2 : k = n ∨ p k = true) : fsN p n = k := by
  have a := fsN_le p n
  rcases Nat.lt_trichotomy (fsN p n) k with q | q | q
  · have := fsN_yes p n (by omega)
    rw [h1 _ q] at this; cases this
  · exact q
  · rcases h2 with e | e
    · omega
    · have := fsN_no p n k q
      rw [e] at this; cases this
theorem lp_fnd {body : Int32 → Option (Int32 ⊕ (Int32 ⊕ Unit))} (p : Nat → Bool) (n : Nat) (hn : n < 100000) (hs : ∀ k, k < n → body (nI k) = if p k then some (.inr (.inl (nI k))) else some (.inl (nI (k + 1)))) (he : body (nI n) = some (.inr (.inr ()))) : a_loop body FU (nI 0) = some (if fsN p n < n then .inl (nI (fsN p n)) else .inr ()) := by
  obtain ⟨x, h1, h2⟩ := lp_m (body := body) (I := fun m s => ∃ k, k ≤ n ∧ m = n - k ∧ s = nI k ∧ ∀ j, j < k → p j = false) (P := fun x => x = if fsN p n < n then .inl (nI (fsN p n)) else .inr ()) (fun m s hi => by
    obtain ⟨k, hk, rfl, rfl, hp⟩ := hi
    rcases Nat.lt_or_eq_of_le hk with q | q
    · cases hpk : p k with
      | false =>
        refine Or.inl ⟨n - (k + 1), nI (k + 1), by omega, ⟨k + 1, by omega, rfl, rfl, fun j hj => ?_⟩, ?_⟩
        · by_cases e : j = k
          · subst e; exact hpk
          · exact hp j (by omega)
        · rw [hs k q, hpk]; rfl
      | true =>
        have e := fsN_eq (n := n) hk hp (Or.inr hpk)
        refine Or.inr ⟨.inl (nI k), ?_, ?_⟩
        · rw [e, if_pos q]
        · rw [hs k q, hpk]; rfl
    · subst q
      have e := fsN_eq (n := k) hk hp (Or.inl rfl)
      exact Or.inr ⟨.inr (), by rw [e, if_neg (Nat.lt_irrefl _)], he⟩) FU n (nI 0) (by exact hn) ⟨0, Nat.zero_le _, rfl, rfl, fun j h => absurd h (Nat.not_lt_zero _)⟩
  rw [h1, h2]
/-- loops that gather a number -/
theorem lp_acc {body : Int32 × Int32 → Option ((Int32 × Int32) ⊕ Int32)} (F : Nat → Nat) (n : Nat) (hn : n < 100000) (hs : ∀ k, k < n → body (nI (F k), nI k) = some (.inl (nI (F (k + 1)), nI (k + 1)))) (he : body (nI (F n), nI n) = some (.inr (nI (F n)))) : a_loop body FU (nI (F 0), nI 0) = some (nI (F n)) := lp_f (fun k => (nI (F k), nI k)) n hn hs he
/-- the last one -/
def lsN (p : Nat → Bool) : Nat → Option Nat
  | 0 => none
  | n + 1 => if p n then some n else lsN p n
theorem lsN_some {p : Nat → Bool} : ∀ {n k : Nat}, lsN p n = some k → k < n ∧ p k = true
  | 0, k, h => by cases h
  | n + 1, k, h => by
    unfold lsN at h
    split at h
    · rename_i h1; cases h; exact ⟨by omega, h1⟩
    · have := lsN_some h
      exact ⟨by omega, this.2⟩
theorem lsN_ex {p : Nat → Bool} : ∀ {n k : Nat}, k < n → p k = true → ∃ j, lsN p n = some j
  | 0, k, h, _ => absurd h (Nat.not_lt_zero _)
  | n + 1, k, h, hp => by
    unfold lsN
    split
    · exact ⟨n, rfl⟩
    · rename_i h1
      exact lsN_ex (k := k) (by rcases Nat.lt_or_ge k n with q | q; exact q; exact absurd hp (by rw [show k = n by omega]; exact h1)) hp
theorem lsN_cg {p q : Nat → Bool} : ∀ {n : Nat}, (∀ k, k < n → p k = q k) → lsN p n = lsN q n
  | 0, _ => rfl
  | n + 1, h => by
    unfold lsN
    rw [h n (by omega), lsN_cg (fun k hk => h k (by omega))]
def chB (d : Nat) (f : Nat → Bool) (lo : Nat) : Bool := match d with
  | 0 => f lo
  | d + 1 => chB d f lo && chB d f (lo + 2 ^ d)
theorem chB_ok (f : Nat → Bool) : ∀ (d lo : Nat), chB d f lo = true → ∀ i, lo ≤ i → i < lo + 2 ^ d → f i = true
  | 0, lo, h, i, h1, h2 => by
    have : i = lo := by simp at h2; omega
    rw [this]; exact h
  | d + 1, lo, h, i, h1, h2 => by
    have hh : chB d f lo = true ∧ chB d f (lo + 2 ^ d) = true := Bool.and_eq_true_iff.mp h
    rcases Nat.lt_or_ge i (lo + 2 ^ d) with q | q
    · exact chB_ok f d lo hh.1 i h1 q
    · exact chB_ok f d _ hh.2 i q (by rw [Nat.pow_succ] at h2; omega)
theorem tb_n (t k : Nat) : (t.testBit k).toNat = t / 2 ^ k % 2 := by
  rw [Nat.testBit_eq_decide_div_mod_eq]
  rcases Nat.mod_two_eq_zero_or_one (t / 2 ^ k) with h | h <;> simp [h]
def pcN (t : Nat) : Nat := t % 2 + t / 2 % 2 + t / 4 % 2 + t / 8 % 2 + t / 16 % 2 + t / 32 % 2 + t / 64 % 2 + t / 128 % 2 + t / 256 % 2 + t / 512 % 2 + t / 1024 % 2 + t / 2048 % 2 + t / 4096 % 2 + t / 8192 % 2 + t / 16384 % 2 + t / 32768 % 2
theorem bts_pc (t : Nat) : bts t = pcN t := by
  simp only [bts, smN, tb_n, pcN]
  simp
def bc1 (t : Nat) : Nat := t - (t / 2 &&& 1431655765)
def bc2 (t : Nat) : Nat := (t &&& 858993459) + (t / 4 &&& 858993459)
def bc3 (t : Nat) : Nat := (t + t / 16) &&& 252645135
def bc4 (t : Nat) : Nat := t + t / 256
def bc5 (t : Nat) : Nat := (t + t / 65536) &&& 63
def bcN (t : Nat) : Nat := bc5 (bc4 (bc3 (bc2 (bc1 t))))
theorem bc_0 : chB 12 (fun t => bcN t == pcN t) 0 = true := by decide +kernel
theorem bc_1 : chB 12 (fun t => bcN t == pcN t) 4096 = true := by decide +kernel
theorem bc_2 : chB 12 (fun t => bcN t == pcN t) 8192 = true := by decide +kernel
theorem bc_3 : chB 12 (fun t => bcN t == pcN t) 12288 = true := by decide +kernel
theorem bc_4 : chB 12 (fun t => bcN t == pcN t) 16384 = true := by decide +kernel
theorem bc_5 : chB 12 (fun t => bcN t == pcN t) 20480 = true := by decide +kernel
theorem bc_6 : chB 12 (fun t => bcN t == pcN t) 24576 = true := by decide +kernel
theorem bc_7 : chB 12 (fun t => bcN t == pcN t) 28672 = true := by decide +kernel
theorem bc_8 : chB 12 (fun t => bcN t == pcN t) 32768 = true := by decide +kernel
theorem bc_9 : chB 12 (fun t => bcN t == pcN t) 36864 = true := by decide +kernel
theorem bc_10 : chB 12 (fun t => bcN t == pcN t) 40960 = true := by decide +kernel
theorem bc_11 : chB 12 (fun t => bcN t == pcN t) 45056 = true := by decide +kernel
theorem bc_12 : chB 12 (fun t => bcN t == pcN t) 49152 = true := by decide +kernel
theorem bc_13 : chB 12 (fun t => bcN t == pcN t) 53248 = true := by decide +kernel
theorem bc_14 : chB 12 (fun t => bcN t == pcN t) 57344 = true := by decide +kernel
theorem bc_15 : chB 12 (fun t => bcN t == pcN t) 61440 = true := by decide +kernel
theorem bc_ok {t : Nat} (h : t < 65536) : bcN t = bts t := by
  rw [bts_pc]
  have key : ∀ c, (h1 : chB 12 (fun t => bcN t == pcN t) (4096 * c) = true) → t / 4096 = c → bcN t = pcN t := fun c h1 h2 => eq_of_beq (chB_ok _ 12 (4096 * c) h1 t (by omega) (by omega))
  have hc : t / 4096 < 16 := by omega
  rcases (show t / 4096 = 0 ∨ t / 4096 = 1 ∨ t / 4096 = 2 ∨ t / 4096 = 3 ∨ t / 4096 = 4 ∨ t / 4096 = 5 ∨ t / 4096 = 6 ∨ t / 4096 = 7 ∨ t / 4096 = 8 ∨ t / 4096 = 9 ∨ t / 4096 = 10 ∨ t / 4096 = 11 ∨ t / 4096 = 12 ∨ t / 4096 = 13 ∨ t / 4096 = 14 ∨ t / 4096 = 15 by omega) with q | q | q | q | q | q | q | q | q | q | q | q | q | q | q | q
  · exact key 0 bc_0 q
  · exact key 1 bc_1 q
  · exact key 2 bc_2 q
  · exact key 3 bc_3 q
  · exact key 4 bc_4 q
  · exact key 5 bc_5 q
  · exact key 6 bc_6 q
  · exact key 7 bc_7 q
  · exact key 8 bc_8 q
  · exact key 9 bc_9 q
  · exact key 10 bc_10 q
  · exact key 11 bc_11 q
  · exact key 12 bc_12 q
  · exact key 13 bc_13 q
  · exact key 14 bc_14 q
  · exact key 15 bc_15 q
theorem us {n k : Nat} (hn : n < 2 ^ 32) (hk : k < 32) : ((nI n).toUInt32 >>> ((nI k).toUInt32 &&& Int32.toUInt32 31)).toInt32 = nI (n / 2 ^ k) := by
  have : ∀ k, k < 32 → (((nI k).toUInt32 &&& Int32.toUInt32 31).toBitVec % 32).toNat = k := by decide +kernel
  exact pk_ushrN hn (nI k) k (this k hk)
theorem bcT {t : Nat} (h : t < 65536) : pJ6_bitCount_0f7a4 (nI t) = some (nI (bts t)) := by
  rw [← bc_ok h]
  have a1 : t / 2 &&& 1431655765 ≤ t := Nat.le_trans Nat.and_le_left (Nat.div_le_self _ _)
  have l1 : bc1 t < 65536 := by unfold bc1; omega
  have l2 : bc2 (bc1 t) < 131072 := by
    unfold bc2
    have h1 : bc1 t &&& 858993459 ≤ bc1 t := Nat.and_le_left
    have h2 : bc1 t / 4 &&& 858993459 ≤ bc1 t / 4 := Nat.and_le_left
    omega
  have l3 : bc3 (bc2 (bc1 t)) < 262144 := by
    unfold bc3
    have h1 : (bc2 (bc1 t) + bc2 (bc1 t) / 16) &&& 252645135 ≤ bc2 (bc1 t) + bc2 (bc1 t) / 16 := Nat.and_le_left
    omega
  have l4 : bc4 (bc3 (bc2 (bc1 t))) < 524288 := by
    unfold bc4; omega
  have e1 : nI t - (((nI t).toUInt32 >>> ((1 : Int32).toUInt32 &&& Int32.toUInt32 31)).toInt32 &&& (1431655765 : Int32)) = nI (bc1 t) := by
    rw [show (1 : Int32).toUInt32 = (nI 1).toUInt32 from rfl, us (by omega) (by decide), show (1431655765 : Int32) = nI 1431655765 from rfl, anI, Nat.pow_one, sbI a1]; rfl
  have e2 : (nI (bc1 t) &&& (858993459 : Int32)) + (((nI (bc1 t)).toUInt32 >>> ((2 : Int32).toUInt32 &&& Int32.toUInt32 31)).toInt32 &&& (858993459 : Int32)) = nI (bc2 (bc1 t)) := by
    rw [show (2 : Int32).toUInt32 = (nI 2).toUInt32 from rfl, us (by omega) (by decide), show (858993459 : Int32) = nI 858993459 from rfl, anI, anI, nI_add]; rfl
  have e3 : (nI (bc2 (bc1 t)) + ((nI (bc2 (bc1 t))).toUInt32 >>> ((4 : Int32).toUInt32 &&& Int32.toUInt32 31)).toInt32) &&& (252645135 : Int32) = nI (bc3 (bc2 (bc1 t))) := by
    rw [show (4 : Int32).toUInt32 = (nI 4).toUInt32 from rfl, us (by omega) (by decide), show (252645135 : Int32) = nI 252645135 from rfl, nI_add, anI]; rfl
  have e4 : nI (bc3 (bc2 (bc1 t))) + ((nI (bc3 (bc2 (bc1 t)))).toUInt32 >>> ((8 : Int32).toUInt32 &&& Int32.toUInt32 31)).toInt32 = nI (bc4 (bc3 (bc2 (bc1 t)))) := by
    rw [show (8 : Int32).toUInt32 = (nI 8).toUInt32 from rfl, us (by omega) (by decide), nI_add]; rfl
  have e5 : (nI (bc4 (bc3 (bc2 (bc1 t)))) + ((nI (bc4 (bc3 (bc2 (bc1 t))))).toUInt32 >>> ((16 : Int32).toUInt32 &&& Int32.toUInt32 31)).toInt32) &&& (63 : Int32) = nI (bcN t) := by
    rw [show (16 : Int32).toUInt32 = (nI 16).toUInt32 from rfl, us (by omega) (by decide), show (63 : Int32) = nI 63 from rfl, nI_add, anI]; rfl
  unfold pJ6_bitCount_0f7a4
  simp only [thn_eq]
  rw [e1, e2, e3, e4, e5]
theorem smN_0 {f : Nat → Nat} : ∀ {n : Nat}, smN f n = 0 → ∀ k, k < n → f k = 0
  | 0, _, k, h => absurd h (Nat.not_lt_zero _)
  | n + 1, h, k, hk => by
    have h : smN f n + f n = 0 := h
    by_cases e : k = n
    · subst e; omega
    · exact smN_0 (n := n) (by omega) k (by omega)
theorem smN_1 {f : Nat → Nat} : ∀ {n : Nat}, smN f n = 1 → ∃ k, k < n ∧ f k = 1 ∧ ∀ j, j < n → j ≠ k → f j = 0
  | 0, h => by cases h
  | n + 1, h => by
    have h : smN f n + f n = 1 := h
    by_cases e : f n = 0
    · obtain ⟨k, h1, h2, h3⟩ := smN_1 (f := f) (n := n) (by omega)
      refine ⟨k, by omega, h2, fun j hj hk => ?_⟩
      by_cases q : j = n
      · rw [q]; exact e
      · exact h3 j (by omega) hk
    · refine ⟨n, by omega, by omega, fun j hj hk => smN_0 (f := f) (n := n) (by omega) j (by omega)⟩
theorem bts_0 {t : Nat} (ht : t < 65536) (h : bts t = 0) : t = 0 := by
  apply Nat.eq_of_testBit_eq
  intro i
  rw [Nat.zero_testBit]
  rcases Nat.lt_or_ge i 16 with q | q
  · have := smN_0 h i q
    cases e : t.testBit i
    · rfl
    · rw [e] at this; cases this
  · exact tbF (n := 16) ht q
theorem bts_one {t : Nat} (ht : t < 65536) (h : bts t = 1) : ∃ k, k < 16 ∧ t = 2 ^ k := by
  obtain ⟨k, h1, h2, h3⟩ := smN_1 h
  refine ⟨k, h1, ?_⟩
  apply Nat.eq_of_testBit_eq
  intro i
  rw [p2_tb]
  by_cases e : k = i
  · subst e
    cases q : t.testBit k
    · rw [q] at h2; cases h2
    · simp
  · rw [decide_eq_false e]
    rcases Nat.lt_or_ge i 16 with q | q
    · have := h3 i q (fun q => e q.symm)
      cases q2 : t.testBit i
      · rfl
      · rw [q2] at this; cases this
    · exact tbF (n := 16) ht q
theorem bitsT {t : Nat} (h : t < 65536) : pX12_bits (nI t) = some (nI (bts t)) := by
  unfold pX12_bits
  refine bd (lp_acc (fun k => smN (fun k => (t.testBit k).toNat) k) 16 (by omega) (fun k hk => ?_) ?_) rfl
  · simp only [X12_bits_b4, thn_eq]
    rw [show (16 : Int32) = nI 16 from rfl, if_neg (nI_ge hk (by omega)), shI (by omega) (by omega), show (1 : Int32) = nI 1 from rfl, b1I, nI_add, nI_add]; rfl
  · simp only [X12_bits_b4, thn_eq]
    rw [show (16 : Int32) = nI 16 from rfl, if_pos (nI_le (a := 16) (b := 16) (Nat.le_refl _) (by omega))]
