/-! HOW MANY ORDERS: the numbers -/
def rdy (w : Nat) (nd : Nat → Nat) (P k : Nat) : Bool := w.testBit k && !P.testBit k && bdf (nd k) P == 0
def wyF (n w : Nat) (nd : Nat → Nat) : Nat → Nat → Nat
  | 0, P => if P = w then 1 else 0
  | f + 1, P => if P = w then 1 else smN (fun k => if rdy w nd P k then wyF n w nd f (P ||| 2 ^ k) else 0) n
def wy (n w : Nat) (nd : Nat → Nat) (P : Nat) : Nat := wyF n w nd 16 P
theorem smN_upd {f g : Nat → Nat} {k : Nat} : ∀ {n : Nat}, k < n → (∀ j, j ≠ k → g j = f j) → g k = f k + 1 → smN g n = smN f n + 1
  | 0, h, _, _ => absurd h (Nat.not_lt_zero _)
  | n + 1, h, h1, h2 => by
    show smN g n + g n = smN f n + f n + 1
    by_cases e : k = n
    · subst e
      rw [h2, smN_cg (p := g) (q := f) (fun j hj => h1 j (by omega))]; omega
    · rw [smN_upd (n := n) (by omega) h1 h2, h1 n (fun q => e q.symm)]; omega
theorem bts_or {A k : Nat} (hk : k < 16) (h : A.testBit k = false) : bts (A ||| 2 ^ k) = bts A + 1 := by
  refine smN_upd hk (fun j hj => ?_) ?_
  · rw [Nat.testBit_or, p2_tb, decide_eq_false (fun q => hj q.symm), Bool.or_false]
  · rw [Nat.testBit_or, p2_tb, h, decide_eq_true rfl]; rfl
theorem sb_or {P w k : Nat} (h : sbN P w) (hk : w.testBit k = true) : sbN (P ||| 2 ^ k) w := fun i hi => by
  rw [Nat.testBit_or, p2_tb] at hi
  rcases Bool.or_eq_true_iff.mp hi with q | q
  · exact h i q
  · rw [← of_decide_eq_true q]; exact hk
theorem bts_step {w P k : Nat} (hw : w < 65536) (h1 : w.testBit k = true) (h2 : P.testBit k = false) : bts (bdf w P) = bts (bdf w (P ||| 2 ^ k)) + 1 := by
  rw [← bts_or (A := bdf w (P ||| 2 ^ k)) (tb_lt (n := 16) hw h1) (by rw [bdf_tb, Nat.testBit_or, p2_tb]; simp)]
  congr 1
  apply Nat.eq_of_testBit_eq
  intro i
  rw [Nat.testBit_or, bdf_tb, bdf_tb, Nat.testBit_or, p2_tb]
  by_cases e : k = i
  · subst e
    rw [h1, h2]; simp
  · rw [decide_eq_false e]; simp
theorem eq_of_rest {w P : Nat} (hw : w < 65536) (h : sbN P w) (h0 : bts (bdf w P) = 0) : P = w := by
  have h1 := bts_0 (bdf_lt (n := 16) hw) h0
  apply Nat.eq_of_testBit_eq
  intro i
  have h2 := bdf_tb w P i
  rw [h1, Nat.zero_testBit] at h2
  cases e : P.testBit i with
  | true => exact (h i e).symm
  | false =>
    rw [e] at h2
    cases e2 : w.testBit i with
    | false => rfl
    | true => rw [e2] at h2; cases h2
theorem rdy_w {w P k : Nat} {nd : Nat → Nat} (h : rdy w nd P k = true) : w.testBit k = true ∧ P.testBit k = false ∧ bdf (nd k) P = 0 := by
  unfold rdy at h
  simp only [Bool.and_eq_true, Bool.not_eq_true', beq_iff_eq] at h
  exact ⟨h.1.1, h.1.2, h.2⟩
theorem wyF_ok {n w : Nat} {nd : Nat → Nat} (hw : w < 65536) : ∀ (f g P : Nat), sbN P w → bts (bdf w P) ≤ f → bts (bdf w P) ≤ g → wyF n w nd f P = wyF n w nd g P
  | 0, g, P, hs, hf, _ => by
    have e := eq_of_rest hw hs (by omega)
    cases g with
    | zero => rfl
    | succ g =>
      unfold wyF
      rw [if_pos e, if_pos e]
  | f + 1, 0, P, hs, _, hg => by
    have e := eq_of_rest hw hs (by omega)
    unfold wyF
    rw [if_pos e, if_pos e]
  | f + 1, g + 1, P, hs, hf, hg => by
    unfold wyF
    by_cases e : P = w
    · rw [if_pos e, if_pos e]
    · rw [if_neg e, if_neg e]
      apply smN_cg
      intro k _
      cases r : rdy w nd P k with
      | false => rfl
      | true =>
        obtain ⟨r1, r2, _⟩ := rdy_w r
        have := bts_step hw r1 r2
        rw [if_pos rfl, if_pos rfl, wyF_ok hw f g (P ||| 2 ^ k) (sb_or hs r1) (by omega) (by omega)]
theorem wy_self (n w : Nat) (nd : Nat → Nat) : wy n w nd w = 1 := if_pos rfl
theorem wy_step {n w P : Nat} {nd : Nat → Nat} (hw : w < 65536) (hs : sbN P w) (hp : P ≠ w) : wy n w nd P = smN (fun k => if rdy w nd P k then wy n w nd (P ||| 2 ^ k) else 0) n := by
  have hu : wy n w nd P = smN (fun k => if rdy w nd P k then wyF n w nd 15 (P ||| 2 ^ k) else 0) n := if_neg hp
  rw [hu]
  apply smN_cg
  intro k _
  cases r : rdy w nd P k with
  | false => rw [if_neg (show ¬ (false = true) by decide), if_neg (show ¬ (false = true) by decide)]
  | true =>
    obtain ⟨r1, r2, _⟩ := rdy_w r
    have := bts_step hw r1 r2
    have := bts_le (bdf w P)
    rw [if_pos rfl, if_pos rfl]
    exact wyF_ok hw 15 16 _ (sb_or hs r1) (by omega) (by omega)
def fct : Nat → Nat
  | 0 => 1
  | n + 1 => (n + 1) * fct n
theorem fct_mono : ∀ {a b : Nat}, a ≤ b → fct a ≤ fct b := by
  intro a b h
  induction h with
  | refl => exact Nat.le_refl _
  | step _ ih => exact Nat.le_trans ih (Nat.le_mul_of_pos_left _ (Nat.succ_pos _))
theorem smN_cnt {A c : Nat} {p : Nat → Bool} (h : ∀ k, p k = true → A.testBit k = true) : ∀ n, n ≤ 16 → smN (fun k => if p k then c else 0) n ≤ bts A * c := by
  have h1 : ∀ n, smN (fun k => if p k then c else 0) n ≤ smN (fun k => (A.testBit k).toNat) n * c := by
    intro n
    induction n with
    | zero => exact Nat.zero_le _
    | succ n ih =>
      show smN _ n + (if p n then c else 0) ≤ (smN _ n + (A.testBit n).toNat) * c
      rw [Nat.add_mul]
      refine Nat.add_le_add ih ?_
      cases e : p n with
      | false => exact Nat.zero_le _
      | true => rw [h n e]; simp
  have h2 : ∀ d n, smN (fun k => (A.testBit k).toNat) n ≤ smN (fun k => (A.testBit k).toNat) (n + d) := by
    intro d n
    induction d with
    | zero => exact Nat.le_refl _
    | succ d ih => exact Nat.le_trans ih (Nat.le_add_right _ _)
  intro n hn
  refine Nat.le_trans (h1 n) (Nat.mul_le_mul_right c ?_)
  have := h2 (16 - n) n
  rwa [show n + (16 - n) = 16 by omega] at this
theorem wy_le {n w : Nat} {nd : Nat → Nat} (hn : n ≤ 16) (hw : w < 65536) : ∀ (m P : Nat), bts (bdf w P) = m → sbN P w → wy n w nd P ≤ fct m
  | 0, P, hm, hs => by
    rw [eq_of_rest hw hs hm, wy_self]; exact Nat.le_refl _
  | m + 1, P, hm, hs => by
    by_cases e : P = w
    · rw [e, wy_self]
      exact fct_mono (Nat.zero_le _)
    · rw [wy_step hw hs e]
      have h1 : smN (fun k => if rdy w nd P k then wy n w nd (P ||| 2 ^ k) else 0) n ≤ smN (fun k => if rdy w nd P k then fct m else 0) n := smN_mono (fun k _ => by
        cases r : rdy w nd P k with
        | false => exact Nat.le_refl _
        | true =>
          obtain ⟨r1, r2, _⟩ := rdy_w r
          have := bts_step hw r1 r2
          rw [if_pos rfl, if_pos rfl]
          exact wy_le hn hw m _ (by omega) (sb_or hs r1))
      have h2 := smN_cnt (A := bdf w P) (c := fct m) (p := fun k => rdy w nd P k) (fun k hk => by
        obtain ⟨r1, r2, _⟩ := rdy_w hk
        rw [bdf_tb, r1, r2]; rfl) n hn
      rw [hm] at h2
      exact Nat.le_trans h1 h2
theorem wy_lt {n w P : Nat} {nd : Nat → Nat} (hn : n ≤ 16) (hw : w < 65536) (hs : sbN P w) : wy n w nd P < 2 ^ 45 := by
  have h1 := wy_le (nd := nd) hn hw _ P rfl hs
  have h2 := fct_mono (bts_le (bdf w P))
  have h3 : fct 16 < 2 ^ 45 := by decide +kernel
  omega
theorem smN_mul {g : Nat → Nat} {c : Nat} : ∀ n, smN (fun k => c * g k) n = c * smN g n
  | 0 => rfl
  | n + 1 => by
    show smN _ n + c * g n = c * (smN g n + g n)
    rw [smN_mul n, Nat.mul_add]
theorem smN_z : ∀ n, smN (fun _ => 0) n = 0
  | 0 => rfl
  | n + 1 => smN_z n
theorem smN_one {c f : Nat} : ∀ {n : Nat}, f < n → smN (fun k => if k = f then c else 0) n = c
  | 0, h => absurd h (Nat.not_lt_zero _)
  | n + 1, h => by
    show smN _ n + (if n = f then c else 0) = c
    by_cases e : n = f
    · subst e
      rw [if_pos rfl, smN_cg (q := fun _ => 0) (fun k hk => if_neg (by omega)), smN_z]; omega
    · rw [if_neg e, smN_one (n := n) (by omega)]; rfl
theorem or_comm3 (P a b : Nat) : P ||| a ||| b = P ||| b ||| a := by
  rw [Nat.or_assoc, Nat.or_assoc, Nat.or_comm a]
/-- one that hangs together with no other of the rest may stand anywhere in it -/
theorem wy_free {n w : Nat} {nd : Nat → Nat} (hn : n ≤ 16) (hw : w < 2 ^ n) : ∀ (m P f : Nat), bts (bdf w P) = m → sbN P w → rdy w nd P f = true → (∀ k, w.testBit k = true → P.testBit k = false → (nd k).testBit f = false) → wy n w nd P = m * wy n w nd (P ||| 2 ^ f)
  | 0, P, f, hm, hs, hr, _ => by
    have w6 : w < 65536 := Nat.lt_of_lt_of_le hw (Nat.pow_le_pow_right (n := 2) (by decide) hn)
    obtain ⟨r1, r2, _⟩ := rdy_w hr
    have := bts_step w6 r1 r2
    omega
  | m + 1, P, f, hm, hs, hr, hu => by
    have w6 : w < 65536 := Nat.lt_of_lt_of_le hw (Nat.pow_le_pow_right (n := 2) (by decide) hn)
    obtain ⟨r1, r2, r3⟩ := rdy_w hr
    have hfn : f < n := tb_lt hw r1
    have hst := bts_step w6 r1 r2
    have hne : P ≠ w := fun q => by rw [q, r1] at r2; cases r2
    have hs2 := sb_or hs r1
    have key : wy n w nd P = m * smN (fun k => if rdy w nd (P ||| 2 ^ f) k then wy n w nd (P ||| 2 ^ f ||| 2 ^ k) else 0) n + wy n w nd (P ||| 2 ^ f) := by
      rw [wy_step w6 hs hne, ← smN_mul]
      have e2 : wy n w nd (P ||| 2 ^ f) = smN (fun k => if k = f then wy n w nd (P ||| 2 ^ f) else 0) n := (smN_one hfn).symm
      rw [e2, ← smN_add]
      apply smN_cg
      intro k hk
      by_cases e : k = f
      · subst e
        have r4 : rdy w nd (P ||| 2 ^ k) k = false := by
          unfold rdy
          rw [Nat.testBit_or, p2_tb]; simp
        rw [hr, r4, if_pos rfl, if_pos rfl, if_neg (by decide)]; omega
      · have same : rdy w nd (P ||| 2 ^ f) k = rdy w nd P k := by
          unfold rdy
          rw [Nat.testBit_or, p2_tb, decide_eq_false (fun q => e q.symm), Bool.or_false]
          cases c1 : w.testBit k with
          | false => rfl
          | true =>
            cases c2 : P.testBit k with
            | true => rfl
            | false =>
              have hz := hu k c1 c2
              have : bdf (nd k) (P ||| 2 ^ f) = bdf (nd k) P := by
                apply Nat.eq_of_testBit_eq
                intro i
                rw [bdf_tb, bdf_tb, Nat.testBit_or, p2_tb]
                by_cases ei : f = i
                · subst ei; rw [hz]; rfl
                · rw [decide_eq_false ei, Bool.or_false]
              rw [this]
        rw [same, if_neg e]
        cases r : rdy w nd P k with
        | false => simp
        | true =>
          obtain ⟨s1, s2, s3⟩ := rdy_w r
          have hst2 := bts_step w6 s1 s2
          rw [if_pos rfl, if_pos rfl, wy_free hn hw m (P ||| 2 ^ k) f (by omega) (sb_or hs s1) ?_ ?_, or_comm3]
          · omega
          · unfold rdy
            have : bdf (nd f) (P ||| 2 ^ k) = 0 := by
              apply Nat.eq_of_testBit_eq
              intro i
              have := bdf_tb (nd f) P i
              rw [r3, Nat.zero_testBit] at this
              rw [bdf_tb, Nat.testBit_or, Nat.zero_testBit]
              cases c1 : (nd f).testBit i with
              | false => rfl
              | true =>
                rw [c1] at this
                cases c2 : P.testBit i with
                | true => rfl
                | false => rw [c2] at this; cases this
            rw [r1, Nat.testBit_or, r2, p2_tb, decide_eq_false e, this]; rfl
          · intro j j1 j2
            rw [Nat.testBit_or] at j2
            exact hu j j1 (Bool.or_eq_false_iff.mp j2).1
    by_cases e : P ||| 2 ^ f = w
    · have hm0 : m = 0 := by
        have : bts (bdf w (P ||| 2 ^ f)) = 0 := by rw [e, bdf_self]; decide
        omega
      rw [key, hm0]; omega
    · rw [key, ← wy_step w6 hs2 e, Nat.succ_mul]
def plN (m : Nat) : Nat → Nat
  | 0 => 1
  | c + 1 => plN m c * (m - c)
theorem wy_frees {n w P F : Nat} {nd : Nat → Nat} (hn : n ≤ 16) (hw : w < 2 ^ n) (hs : sbN P w) (hF : ∀ f, F.testBit f = true → rdy w nd P f = true ∧ ∀ k, w.testBit k = true → P.testBit k = false → (nd k).testBit f = false) : ∀ j, wy n w nd P = plN (bts (bdf w P)) (bts (mkN (fun i => F.testBit i) j)) * wy n w nd (P ||| mkN (fun i => F.testBit i) j)
  | 0 => by
    rw [show mkN (fun i => F.testBit i) 0 = 0 from rfl, show bts 0 = 0 by decide, Nat.or_zero]
    show _ = 1 * _
    omega
  | j + 1 => by
    have w6 : w < 65536 := Nat.lt_of_lt_of_le hw (Nat.pow_le_pow_right (n := 2) (by decide) hn)
    have ih := wy_frees hn hw hs hF j
    have hu : mkN (fun i => F.testBit i) (j + 1) = mkN (fun i => F.testBit i) j ||| (if F.testBit j then 2 ^ j else 0) := rfl
    cases c : F.testBit j with
    | false => rw [hu, c, if_neg (by decide), Nat.or_zero]; exact ih
    | true =>
      obtain ⟨hr, hz⟩ := hF j c
      obtain ⟨r1, r2, r3⟩ := rdy_w hr
      have j16 := tb_lt (n := 16) w6 r1
      have nb : (mkN (fun i => F.testBit i) j).testBit j = false := by rw [mkN_tb]; simp
      have mb : ∀ i, (mkN (fun i => F.testBit i) j).testBit i = true → (bdf w P).testBit i = true := fun i hi => by
        rw [mkN_tb] at hi
        obtain ⟨q1, q2, _⟩ := rdy_w (hF i (Bool.and_eq_true_iff.mp hi).2).1
        rw [bdf_tb, q1, q2]; rfl
      have hs2 : sbN (P ||| mkN (fun i => F.testBit i) j) w := fun i hi => by
        rw [Nat.testBit_or] at hi
        rcases Bool.or_eq_true_iff.mp hi with q | q
        · exact hs i q
        · have := mb i q
          rw [bdf_tb] at this
          exact (Bool.and_eq_true_iff.mp this).1
      have hb : bts (bdf w (P ||| mkN (fun i => F.testBit i) j)) = bts (bdf w P) - bts (mkN (fun i => F.testBit i) j) := by
        have := bts_bdf (w := bdf w P) (Q := mkN (fun i => F.testBit i) j) mb
        rw [← bdf_or] at this
        omega
      rw [hu, c, if_pos rfl, bts_or j16 nb, ← Nat.or_assoc]
      show _ = plN _ _ * _ * _
      rw [ih, wy_free hn hw _ (P ||| mkN (fun i => F.testBit i) j) j hb hs2 ?_ ?_, Nat.mul_assoc]
      · unfold rdy
        have : bdf (nd j) (P ||| mkN (fun i => F.testBit i) j) = 0 := by rw [bdf_or, r3, bdf_z]
        rw [r1, Nat.testBit_or, r2, nb, this]; rfl
      · intro k k1 k2
        rw [Nat.testBit_or] at k2
        exact hz k k1 (Bool.or_eq_false_iff.mp k2).1
theorem mk_tb {F n : Nat} (h : F < 2 ^ n) : mkN (fun i => F.testBit i) n = F := by
  apply Nat.eq_of_testBit_eq
  intro i
  rw [mkN_tb]
  by_cases e : i < n
  · rw [decide_eq_true e]; rfl
  · rw [decide_eq_false e, tbF h (by omega)]; rfl
theorem wy_all {n w P F : Nat} {nd : Nat → Nat} (hn : n ≤ 16) (hw : w < 2 ^ n) (hs : sbN P w) (hF : ∀ f, F.testBit f = true → rdy w nd P f = true ∧ ∀ k, w.testBit k = true → P.testBit k = false → (nd k).testBit f = false) : wy n w nd P = plN (bts (bdf w P)) (bts F) * wy n w nd (P ||| F) := by
  have hF2 : F < 2 ^ n := lt_of_tb (fun i hi => by
    cases e : F.testBit i with
    | false => rfl
    | true =>
      have := tb_lt hw (rdy_w (hF i e).1).1
      omega)
  have := wy_frees hn hw hs hF n
  rwa [mk_tb hF2] at this
