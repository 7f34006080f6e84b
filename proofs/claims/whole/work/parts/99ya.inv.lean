/-! THE LAW: what holds between two calls -/
def vS (Ω : oT) (K : Nat × Nat) : RS := ((Ω K).getD (fZ, z0)).2
def vF (Ω : oT) (K : Nat × Nat) : Nat → Option Nat := ((Ω K).getD (fZ, z0)).1
def vI (Ω : oT) (K : Nat × Nat) : Prop := (Ω K).isSome = true
theorem v_some {Ω : oT} {K : Nat × Nat} (h : vI Ω K) : Ω K = some (vF Ω K, vS Ω K) := by
  unfold vI at h
  cases e : Ω K with
  | none => rw [e] at h; cases h
  | some v =>
    unfold vF vS
    rw [e]; rfl
theorem v_of {Ω : oT} {K : Nat × Nat} {f : Nat → Option Nat} {s : RS} (h : Ω K = some (f, s)) : vI Ω K ∧ vF Ω K = f ∧ vS Ω K = s := by
  unfold vI vF vS
  rw [h]; exact ⟨rfl, rfl, rfl⟩
theorem v_eq {Ω Ω2 : oT} {K : Nat × Nat} (h : Ω2 K = Ω K) : (vI Ω2 K ↔ vI Ω K) ∧ vF Ω2 K = vF Ω K ∧ vS Ω2 K = vS Ω K := by
  unfold vI vF vS
  rw [h]; exact ⟨Iff.rfl, rfl, rfl⟩
/-- a State of the class, its book and its log, against a block of the reference -/
def stR (c : Nat → Int32) (w : Nat → Int64) (s7 r : RS) (L : Option RS) : Prop := ∃ (B nm nmI O Hh : Nat → Nat) (nO : Nat), blk c 0 B ∧ wfB B ∧ bkR B r ∧ nmR 0 (B 0) nm w (r.2.2.2 3) ∧ nmR 16 (B 1) nmI w (r.2.2.2 2) ∧ hsR c Hh ∧ hsC s7 Hh ∧ hsW B Hh ∧ orW B nO O ∧ orR c nO O ∧ orC s7 nO O ∧ match L with
  | none => c 135 = nI 0
  | some lg => c 135 = nI 1 ∧ ∃ R T, lgR B lg c R T
def stO (Ω : oT) (a : Nat) (c : Nat → Int32) (w : Nat → Int64) : Prop := vI Ω (7, a) ∧ ∃ bk, vF Ω (7, a) 0 = some bk ∧ vI Ω (0, bk) ∧ ((vF Ω (7, a) 1 = none ∧ stR c w (vS Ω (7, a)) (vS Ω (0, bk)) none) ∨ ∃ lb, vF Ω (7, a) 1 = some lb ∧ vI Ω (3, lb) ∧ stR c w (vS Ω (7, a)) (vS Ω (0, bk)) (some (vS Ω (3, lb))))
/-- books, logs and the marks' States are as they were -/
def kp (b0 : Nat) (Ω Ω2 : oT) : Prop := ∀ K : Nat × Nat, (K.1 = 0 ∨ K.1 = 3 ∨ (K.1 = 7 ∧ K.2 ≠ b0 + 8)) → vI Ω K → Ω2 K = Ω K
theorem stO_kp {b0 a : Nat} {Ω Ω2 : oT} {c : Nat → Int32} {w : Nat → Int64} (hk : kp b0 Ω Ω2) (ha : a ≠ b0 + 8) (h : stO Ω a c w) : stO Ω2 a c w := by
  obtain ⟨h1, bk, h2, h3, h4⟩ := h
  have e7 := v_eq (hk (7, a) (Or.inr (Or.inr ⟨rfl, ha⟩)) h1)
  have e0 := v_eq (hk (0, bk) (Or.inl rfl) h3)
  refine ⟨e7.1.mpr h1, bk, by rw [e7.2.1]; exact h2, e0.1.mpr h3, ?_⟩
  rw [e7.2.1, e7.2.2, e0.2.2]
  rcases h4 with h4 | ⟨lb, h5, h6, h7⟩
  · exact Or.inl h4
  · have e3 := v_eq (hk (3, lb) (Or.inr (Or.inl rfl)) h6)
    exact Or.inr ⟨lb, h5, e3.1.mpr h6, by rw [e3.2.2]; exact h7⟩
theorem stR_cg {c c' : Nat → Int32} {w w' : Nat → Int64} {s7 r : RS} {L : Option RS} (hc : ∀ j, j < 360 → c' j = c j) (hw : ∀ j, j < 20 → w' j = w j) (h : stR c w s7 r L) : stR c' w' s7 r L := by
  obtain ⟨B, nm, nmI, O, Hh, nO, a1, a2, a3, a4, a5, a6, a7, a8, a9, a10, a11, a12⟩ := h
  have h16 := a2.1
  have h4 := a2.2.1
  have hn := a9.1
  refine ⟨B, nm, nmI, O, Hh, nO, ⟨fun j hj => by rw [hc _ (by omega)]; exact a1.1 j hj, a1.2⟩, a2, a3, fun k hk => by rw [hw _ (by omega)]; exact a4 k hk, fun k hk => by rw [hw _ (by omega)]; exact a5 k hk, fun i hi => by rw [hc _ (by omega)]; exact a6 i hi, a7, a8, a9, ⟨by rw [hc _ (by omega)]; exact a10.1, fun k hk => by rw [hc _ (by omega)]; exact a10.2 k hk⟩, a11, ?_⟩
  cases L with
  | none => show c' 135 = nI 0; rw [hc _ (by omega)]; exact a12
  | some lg =>
    obtain ⟨b1, R, T, b2, b3, b4, b5, n, d, b6, b7⟩ := a12
    refine ⟨by rw [hc _ (by omega)]; exact b1, R, T, b2, b3, b4, by rw [hc _ (by omega)]; exact b5, n, d, b6, sg_cg n d 0 R 0 T (fun _ _ _ _ => rfl) (fun x x1 x2 => hc x (by omega)) b7⟩
theorem stO_cg {a : Nat} {Ω : oT} {c c' : Nat → Int32} {w w' : Nat → Int64} (hc : ∀ j, j < 360 → c' j = c j) (hw : ∀ j, j < 20 → w' j = w j) (h : stO Ω a c w) : stO Ω a c' w' := by
  obtain ⟨h1, bk, h2, h3, h4⟩ := h
  refine ⟨h1, bk, h2, h3, ?_⟩
  rcases h4 with ⟨h4, h5⟩ | ⟨lb, h5, h6, h7⟩
  · exact Or.inl ⟨h4, stR_cg hc hw h5⟩
  · exact Or.inr ⟨lb, h5, h6, stR_cg hc hw h7⟩
/-- what both show alike, but for the States and the counter -/
def rel (s s0 s8 : RS) (sT : Nat → RS) : Prop := (s.1 0 = s0.1 11 ∧ s.2.1 2 = s0.2.1 12 ∧ s.2.1 3 = s0.2.1 13) ∧ (s.1 43 = s0.1 9 ∧ (s.1 43 ≠ 0 → ∀ i, i < 5 → s0.2.2.1 8 i = s.2.2.1 14 i)) ∧ ((∃ n, tpR n s s8) ∧ s.1 10 = s8.1 3 ∧ s.1 11 = s8.1 4 ∧ tbK (s8.2.2.2 1)) ∧ ∀ i, i < 4 → trR s i (sT i)
/-- the counter -/
def cnt (b0 k : Nat) (Ω : oT) (c : Nat) : Prop := vI Ω (5, b0 + 34) ∧ ∃ b4 st, vF Ω (5, b0 + 34) 5 = some b4 ∧ vI Ω (12, b4) ∧ ctR (2 ^ c) st (vS Ω (5, b0 + 34)) (vS Ω (12, b4)) ∧ st ≤ 2 * k ∧ c ≤ 16
/-- the marks -/
def mks (b0 : Nat) (Ω : oT) (s s0 : RS) : Prop := (∀ i, i < 3 → vI Ω (7, b0 + 87 + 17 * i)) ∧ ∃ m, m ≤ 3 ∧ s.1 22 = nI m ∧ s0.1 10 = nI m ∧ ∀ i, i < m → stO Ω (b0 + 87 + 17 * i) (fun j => s.2.2.1 4 (360 * (i + 1) + j)) (fun j => s.2.2.2 5 (20 * (i + 1) + j))
def prs (b0 mo : Nat) (Ω : oT) : Prop := vI Ω (13, mo) ∧ vI Ω (11, b0) ∧ vI Ω (8, b0 + 2) ∧ vI Ω (2, b0 + 26) ∧ vI Ω (2, b0 + 30) ∧ vI Ω (10, b0 + 50) ∧ ∀ i, i < 4 → vI Ω (9, b0 + 79 + 2 * i)
def IV (b0 mo k c : Nat) (Ω : oT) : Prop := prs b0 mo Ω ∧ rel (vS Ω (13, mo)) (vS Ω (11, b0)) (vS Ω (8, b0 + 2)) (fun i => vS Ω (9, b0 + 79 + 2 * i)) ∧ cnt b0 k Ω c ∧ mks b0 Ω (vS Ω (13, mo)) (vS Ω (11, b0)) ∧ stO Ω (b0 + 8) ((vS Ω (13, mo)).2.2.1 4) ((vS Ω (13, mo)).2.2.2 5)
def INV (b0 mo k : Nat) (H : aH) : Prop := ∃ (Ω : oT) (c : Nat), wO H Ω H.2.1 ∧ mo + 18 ≤ H.2.1 ∧ IV b0 mo k c Ω ∧ H.2.1 ≤ 1000 + 15 * k ∧ H.2.2 ≤ 100000 + 400 * k + 2 * 2 ^ c
theorem cnt_eq {b0 k c : Nat} {Ω Ω2 : oT} (h : cnt b0 k Ω c) (h5 : ∀ K : Nat × Nat, K.1 = 5 ∨ K.1 = 12 → vI Ω K → Ω2 K = Ω K) : cnt b0 (k + 1) Ω2 c := by
  obtain ⟨h1, b4, st, h2, h3, h4, h6, h7⟩ := h
  have e5 := v_eq (h5 (5, b0 + 34) (Or.inl rfl) h1)
  have e12 := v_eq (h5 (12, b4) (Or.inr rfl) h3)
  exact ⟨e5.1.mpr h1, b4, st, by rw [e5.2.1]; exact h2, e12.1.mpr h3, by rw [e5.2.2, e12.2.2]; exact h4, by omega, h7⟩
theorem mks_eq {b0 : Nat} {Ω Ω2 : oT} {s s0 s' s0' : RS} (h : mks b0 Ω s s0) (hk : kp b0 Ω Ω2) (h22 : s'.1 22 = s.1 22) (h10 : s0'.1 10 = s0.1 10) (hc : ∀ x, 360 ≤ x → x < 1440 → s'.2.2.1 4 x = s.2.2.1 4 x) (hw : ∀ x, 20 ≤ x → x < 80 → s'.2.2.2 5 x = s.2.2.2 5 x) : mks b0 Ω2 s' s0' := by
  obtain ⟨h1, m, h2, h3, h4, h5⟩ := h
  refine ⟨fun i hi => (v_eq (hk (7, b0 + 87 + 17 * i) (Or.inr (Or.inr ⟨rfl, by show b0 + 87 + 17 * i ≠ b0 + 8; omega⟩)) (h1 i hi))).1.mpr (h1 i hi), m, h2, h22.trans h3, h10.trans h4, fun i hi => ?_⟩
  exact stO_cg (fun j hj => hc _ (by omega) (by omega)) (fun j hj => hw _ (by omega) (by omega)) (stO_kp hk (by omega) (h5 i hi))
/-- the reference's region -/
theorem rH_lay {H : aH} {Ω : oT} {n mo : Nat} (hO : wO H Ω n) (h : vI Ω (13, mo)) : rH mo H (vS Ω (13, mo)) = H := by
  refine Prod.ext (funext fun i => ?_) rfl
  show (if mo ≤ i ∧ i < mo + 18 then rC mo (vS Ω (13, mo)) (i - mo) else H.1 i) = H.1 i
  by_cases c : mo ≤ i ∧ i < mo + 18
  · rw [if_pos c]
    have := hO.2.2 13 mo _ _ (v_some h) (i - mo) (rC mo (vS Ω (13, mo)) (i - mo)) (if_pos (by omega))
    rw [show mo + (i - mo) = i by omega] at this
    exact this.symm
  · rw [if_neg c]
theorem rH_oH {H : aH} {mo : Nat} {f : Nat → Option Nat} {s : RS} : rH mo H s = oH (13, mo, f, s) H := by
  refine Prod.ext (funext fun i => ?_) rfl
  show (if mo ≤ i ∧ i < mo + 18 then rC mo s (i - mo) else H.1 i) = if mo ≤ i then (xC13 mo s (i - mo)).getD (H.1 i) else H.1 i
  unfold xC13
  by_cases c1 : mo ≤ i
  · rw [if_pos c1]
    by_cases c2 : i < mo + 18
    · rw [if_pos ⟨c1, c2⟩, if_pos (by omega)]; rfl
    · rw [if_neg (fun h => c2 h.2), if_neg (by omega)]; rfl
  · rw [if_neg c1, if_neg (fun h => c1 h.1)]
/-- outside of what is laid anew all is as it was -/
theorem oU_ag {Ω : oT} (P : Nat × Nat → Prop) : ∀ {L : List XR}, (∀ r ∈ L, P (xk r) → Ω (xk r) = some r.2.2) → ∀ K, P K → oU L Ω K = Ω K
  | [], _, _, _ => rfl
  | r :: L, h, K, hK => by
    show (if K = xk r then some r.2.2 else oU L Ω K) = Ω K
    by_cases e : K = xk r
    · rw [if_pos e, e]; exact (h r List.mem_cons_self (e ▸ hK)).symm
    · rw [if_neg e]; exact oU_ag P (fun q hq => h q (List.mem_cons_of_mem _ hq)) K hK
theorem oU_I {Ω : oT} {L : List XR} {K : Nat × Nat} (h : vI Ω K) : vI (oU L Ω) K := oU_some h
