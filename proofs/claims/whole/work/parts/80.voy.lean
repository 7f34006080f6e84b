/-! THE VOYAGE: its state. H; done, day, missed, came, lost; ships, random; the cargoes (to, set, day, ship) -/
abbrev VC : Type := Nat × Nat × Nat × Nat
abbrev VS : Type := (Nat → Nat) × (Nat × Nat × Nat × Nat × Nat) × (Nat × Nat) × List VC
def cgR (l : List VC) (s : RS) : Prop := s.1 35 = nI l.length ∧ ∀ k x, l[k]? = some x → s.2.2.1 10 k = nI x.1 ∧ s.2.2.1 11 k = nI x.2.1 ∧ s.2.2.1 12 k = nI x.2.2.1 ∧ s.2.2.1 13 k = nI x.2.2.2
def cgX (l : List VC) (q : RS) : Prop := q.1 6 = nI l.length ∧ ∀ k x, l[k]? = some x → q.2.2.1 12 k = nI x.1 ∧ q.2.2.1 11 k = nI x.2.1 ∧ q.2.2.1 13 k = nI x.2.2.1 ∧ q.2.2.1 14 k = nI x.2.2.2
def vrR (v : VS) (s : RS) : Prop := (∀ i, i < 4 → s.2.2.1 4 (114 + i) = nI (v.1 i)) ∧ (s.1 38 = nI v.2.1.1 ∧ s.1 39 = nI v.2.1.2.1 ∧ s.1 40 = nI v.2.1.2.2.1 ∧ s.1 41 = nI v.2.1.2.2.2.1 ∧ s.1 42 = nI v.2.1.2.2.2.2) ∧ (s.1 36 = nI v.2.2.1.1 ∧ s.1 37 = nI v.2.2.1.2) ∧ cgR v.2.2.2 s
def vrX (v : VS) (q : RS) : Prop := (∀ i, i < 4 → q.2.2.1 0 i = nI (v.1 i)) ∧ (q.1 1 = nI v.2.1.1 ∧ q.1 2 = nI v.2.1.2.1 ∧ q.1 3 = nI v.2.1.2.2.1 ∧ q.1 4 = nI v.2.1.2.2.2.1 ∧ q.1 5 = nI v.2.1.2.2.2.2) ∧ (q.1 10 = nI v.2.2.1.1 ∧ q.1 9 = nI v.2.2.1.2) ∧ cgX v.2.2.2 q
def hOk (B : Nat → Nat) (h : Nat) : Prop := h < 2 ^ B 0 ∧ lk B h = 0
def cOk (B : Nat → Nat) (x : VC) : Prop := x.1 < B 1 ∧ hOk B x.2.1 ∧ x.2.2.1 < 100000 ∧ x.2.2.2 < 100000
def vW (B : Nat → Nat) (v : VS) : Prop := (∀ i, i < 4 → hOk B (v.1 i)) ∧ v.2.1.1 ≤ 300 ∧ v.2.1.2.1 ≤ 99 * v.2.1.1 ∧ v.2.2.1.1 ≤ v.2.1.1 ∧ v.2.2.1.2 < 65536 ∧ v.2.2.2.length ≤ 20 ∧ ∀ x, x ∈ v.2.2.2 → cOk B x
/-- the reference: what else is there is as it was -/
def rV (s s' : RS) : Prop := (∀ j, (j < 35 ∨ 45 ≤ j ∨ j = 43 ∨ j = 44) → s'.1 j = s.1 j) ∧ s'.2.1 = s.2.1 ∧ s'.2.2.2 = s.2.2.2 ∧ (∀ n, (n < 4 ∨ (4 < n ∧ n < 10) ∨ 13 < n) → s'.2.2.1 n = s.2.2.1 n) ∧ ∀ j, (j < 114 ∨ 118 ≤ j) → s'.2.2.1 4 j = s.2.2.1 4 j
/-- the class: the counts of rounds are as they were -/
def qV (q q' : RS) : Prop := q'.2.2.1 15 = q.2.2.1 15
theorem rV_rf (s : RS) : rV s s := ⟨fun _ _ => rfl, rfl, rfl, fun _ _ => rfl, fun _ _ => rfl⟩
theorem rV_tr {a b c : RS} (h : rV a b) (k : rV b c) : rV a c := ⟨fun j hj => (k.1 j hj).trans (h.1 j hj), k.2.1.trans h.2.1, k.2.2.1.trans h.2.2.1, fun n hn => (k.2.2.2.1 n hn).trans (h.2.2.2.1 n hn), fun j hj => (k.2.2.2.2 j hj).trans (h.2.2.2.2 j hj)⟩
theorem rV_uI (s : RS) {k : Nat} (v : Int32) (hk : 35 ≤ k ∧ k ≤ 42) : rV s (uI s k v) := ⟨fun j hj => if_neg (show ¬ j = k by omega), rfl, rfl, fun _ _ => rfl, fun _ _ => rfl⟩
theorem rV_uA4 (s : RS) {i : Nat} (v : Int32) (hi : i < 4) : rV s (uA s 4 (upd (s.2.2.1 4) (114 + i) v)) := ⟨fun _ _ => rfl, rfl, rfl, fun n hn => uA_ne _ _ (by omega), fun j hj => by rw [uA_at, upd_ne _ _ (by omega)]⟩
theorem rV_uAc (s : RS) {n : Nat} (f : Nat → Int32) (hn : 10 ≤ n ∧ n ≤ 13) : rV s (uA s n f) := ⟨fun _ _ => rfl, rfl, rfl, fun m hm => uA_ne _ _ (by omega), fun j hj => by rw [uA_ne _ _ (by omega)]⟩
theorem rV_blk {s s' : RS} {B : Nat → Nat} (h : rV s s') (hB : blk (s.2.2.1 4) 0 B) : blk (s'.2.2.1 4) 0 B := ⟨fun j hj => by rw [h.2.2.2.2 (0 + j) (by omega)]; exact hB.1 j hj, hB.2⟩
def setH (v : VS) (i h : Nat) : VS := (fun j => if j = i then h else v.1 j, v.2)
def msd (v : VS) : VS := (v.1, (v.2.1.1, v.2.1.2.1, v.2.1.2.2.1 + 1, v.2.1.2.2.2.1, v.2.1.2.2.2.2), v.2.2)
theorem vrR_setH {v : VS} {s : RS} (h : vrR v s) {i x : Nat} (hi : i < 4) : vrR (setH v i x) (uA s 4 (upd (s.2.2.1 4) (114 + i) (nI x))) := by
  refine ⟨fun j hj => ?_, h.2.1, h.2.2.1, h.2.2.2⟩
  rw [uA_at]
  show _ = nI (if j = i then x else v.1 j)
  by_cases e : j = i
  · subst e; rw [upd_at, if_pos rfl]
  · rw [upd_ne _ _ (by omega), if_neg e]; exact h.1 j hj
theorem vrX_setH {v : VS} {q : RS} (h : vrX v q) {i x : Nat} : vrX (setH v i x) (uA q 0 (upd (q.2.2.1 0) i (nI x))) := by
  refine ⟨fun j hj => ?_, h.2.1, h.2.2.1, h.2.2.2⟩
  rw [uA_at]
  show _ = nI (if j = i then x else v.1 j)
  by_cases e : j = i
  · subst e; rw [upd_at, if_pos rfl]
  · rw [upd_ne _ _ e, if_neg e]; exact h.1 j hj
theorem vrR_msd {v : VS} {s : RS} (h : vrR v s) : vrR (msd v) (uI s 40 (s.1 40 + (1 : Int32))) := by
  refine ⟨h.1, ⟨h.2.1.1, h.2.1.2.1, ?_, h.2.1.2.2.2.1, h.2.1.2.2.2.2⟩, h.2.2.1, h.2.2.2⟩
  show s.1 40 + (1 : Int32) = _
  rw [h.2.1.2.2.1, nI_1]; rfl
theorem vrX_msd {v : VS} {q : RS} (h : vrX v q) : vrX (msd v) (uI q 3 (q.1 3 + (1 : Int32))) := by
  refine ⟨h.1, ⟨h.2.1.1, h.2.1.2.1, ?_, h.2.1.2.2.2.1, h.2.1.2.2.2.2⟩, h.2.2.1, h.2.2.2⟩
  show q.1 3 + (1 : Int32) = _
  rw [h.2.1.2.2.1, nI_1]; rfl
theorem vW_setH {B : Nat → Nat} {v : VS} (h : vW B v) {i x : Nat} (hx : hOk B x) : vW B (setH v i x) := by
  refine ⟨fun j hj => ?_, h.2⟩
  unfold setH
  by_cases e : j = i
  · show hOk B (if j = i then x else v.1 j)
    rw [if_pos e]; exact hx
  · show hOk B (if j = i then x else v.1 j)
    rw [if_neg e]; exact h.1 j hj
theorem vW_msd {B : Nat → Nat} {v : VS} (h : vW B v) : vW B (msd v) := h
theorem hOk_or {B : Nat → Nat} {a b : Nat} (ha : hOk B a) (hb : hOk B b) : hOk B (a ||| b) := by
  refine ⟨or_lt ha.1 hb.1, lk_iff.mpr (fun k hk h i hi => ?_)⟩
  rw [Nat.testBit_or] at h ⊢
  rcases Bool.or_eq_true_iff.mp h with q | q
  · rw [lk_iff.mp ha.2 k hk q i hi]; rfl
  · rw [lk_iff.mp hb.2 k hk q i hi, Bool.or_true]
theorem hOk_pick {B : Nat → Nat} (hw : wfB B) {x : Nat} (hx : x < B 0) : hOk B (B (98 + x) ||| 2 ^ x) := by
  have h1 := (hw.2.2 x hx).2.1
  have h2 : 2 ^ x < 2 ^ B 0 := p2_lt hx
  refine ⟨or_lt (by omega) h2, lk_iff.mpr (fun k hk h i hi => ?_)⟩
  rw [Nat.testBit_or, p2_tb] at h ⊢
  rcases Bool.or_eq_true_iff.mp h with q | q
  · rw [hg_tr hw hx q hi]; rfl
  · have e : x = k := of_decide_eq_true q
    subst e
    rw [hi]; rfl
/-- make, out, pick -/
def vAt (B : Nat → Nat) (kd x i : Nat) (v : VS) : VS :=
  if kd = 0 then (if bdf (B (98 + x)) (v.1 i) = 0 then setH v i (v.1 i ||| 2 ^ x) else msd v)
  else if kd = 2 then setH v i (bdf (v.1 i) (hgr B x ||| 2 ^ x))
  else if anN (fun k => (v.1 k).testBit x) (B 1) then setH v i (v.1 i ||| B (98 + x) ||| 2 ^ x) else msd v
theorem vAt_ok {B : Nat → Nat} (hw : wfB B) {kd x i : Nat} {v : VS} (hv : vW B v) (hx : x < B 0) (hi : i < B 1) : vW B (vAt B kd x i v) ∧ (vAt B kd x i v).2.1.1 = v.2.1.1 := by
  have h4 := hw.2.1
  have hH := hv.1 i (by omega)
  unfold vAt
  by_cases c0 : kd = 0
  · rw [if_pos c0]
    by_cases c1 : bdf (B (98 + x)) (v.1 i) = 0
    · rw [if_pos c1]
      refine ⟨vW_setH hv ?_, rfl⟩
      have e : v.1 i ||| 2 ^ x = v.1 i ||| (B (98 + x) ||| 2 ^ x) := by
        apply Nat.eq_of_testBit_eq
        intro j
        rw [Nat.testBit_or, Nat.testBit_or, Nat.testBit_or]
        cases c : (B (98 + x)).testBit j with
        | false => rw [Bool.false_or]
        | true => rw [bdf_sub.mp c1 j c]; rfl
      rw [e]
      exact hOk_or hH (hOk_pick hw hx)
    · rw [if_neg c1]; exact ⟨vW_msd hv, rfl⟩
  · rw [if_neg c0]
    by_cases c2 : kd = 2
    · rw [if_pos c2]
      refine ⟨vW_setH hv ⟨bdf_lt hH.1, lk_out hw (fun j hj => tb_lt hH.1 hj) hH.2⟩, rfl⟩
    · rw [if_neg c2]
      cases anN (fun k => (v.1 k).testBit x) (B 1) with
      | true =>
        rw [if_pos rfl, Nat.or_assoc]
        exact ⟨vW_setH hv (hOk_or hH (hOk_pick hw hx)), rfl⟩
      | false => rw [if_neg (by decide)]; exact ⟨vW_msd hv, rfl⟩
section V
variable {s q r : RS} {B : Nat → Nat} {v : VS}
theorem r_isIsland (hB : blk (s.2.2.1 4) 0 B) (hw : wfB B) {i : Nat} (hi : i < 2 ^ 31) : pX12_isIsland s (nI i) = some (decide (i < B 1)) := by
  have h4 := hw.2.1
  have hb1 : s.2.2.1 4 (1 : Int32).toNatClampNeg = nI (B 1) := hB.1 1 (by omega)
  unfold pX12_isIsland
  rw [hb1, show g_in (1 : Int32) 1800 = g_in (γ := Bool) (nI 1) 1800 from rfl, g_inT (by omega) (by omega)]
  rcases isInM (nI i) (m := B 1) (by omega) with ⟨t, h1, h2, h3, _⟩ | ⟨h3, h⟩
  · have : i = t := (nI_eq hi (by omega)).mp h2
    rw [h3, this, decide_eq_true h1]; rfl
  · have : ¬ i < B 1 := fun c => ne_out h c (by omega) rfl
    rw [h3, decide_eq_false this]; rfl
theorem r_isChangeN (hB : blk (s.2.2.1 4) 0 B) (hw : wfB B) {i : Nat} (hi : i < 2 ^ 31) : pX12_isChange s (nI i) = some (decide (i < B 0)) := by
  have h4 := hw.1
  have hb1 : s.2.2.1 4 (0 : Int32).toNatClampNeg = nI (B 0) := hB.1 0 (by omega)
  unfold pX12_isChange
  rw [g_in0 _ (by omega) (by omega), hb1]
  rcases isInM (nI i) (m := B 0) (by omega) with ⟨t, h1, h2, h3, _⟩ | ⟨h3, h⟩
  · have : i = t := (nI_eq hi (by omega)).mp h2
    rw [h3, this, decide_eq_true h1]; rfl
  · have : ¬ i < B 0 := fun c => ne_out h c (by omega) rfl
    rw [h3, decide_eq_false this]; rfl
theorem x_isIslandN (hR : bkR B r) (hw : wfB B) {i : Nat} (hi : i < 2 ^ 31) : pX0_isIsland r (nI i) = some (decide (i < B 1)) := by
  have h4 := hw.2.1
  unfold pX0_isIsland
  rw [hR.1, if_neg (show ¬ nI i < 0 from nI_pos hi)]
  by_cases c : i < B 1
  · rw [if_neg (nI_ge c (by omega)), decide_eq_true c]
  · rw [if_pos (nI_le (by omega) hi), decide_eq_false c]
theorem g114 {γ : Type} {i : Nat} (hi : i < 4) (e : Option γ) : g_in ((114 : Int32) + nI i) 1800 e = e := by
  rw [show (114 : Int32) + nI i = nI (114 + i) from nI_add 114 i]; exact g_inT (by omega) (by omega)
theorem c114 {i : Nat} (hi : i < 4) : ((114 : Int32) + nI i).toNatClampNeg = 114 + i := by
  rw [show (114 : Int32) + nI i = nI (114 + i) from nI_add 114 i]; exact nI_clamp (by omega)
theorem r_doAt (hB : blk (s.2.2.1 4) 0 B) (hw : wfB B) (hv : vW B v) (hs : vrR v s) {kd x i : Nat} (hkd : kd = 0 ∨ kd = 2 ∨ kd = 3) (hx : x < B 0) (hi : i < B 1) : ∃ s', pX12_doAt s (nI kd) (nI x) (nI i) = some s' ∧ vrR (vAt B kd x i v) s' ∧ rV s s' := by
  have h16 := hw.1
  have h4 := hw.2.1
  have p16 : 2 ^ B 0 ≤ 2 ^ 16 := Nat.pow_le_pow_right (by decide) h16
  have hH := hv.1 i (by omega)
  have hHl := hH.1
  have hb1 : s.2.2.1 4 (1 : Int32).toNatClampNeg = nI (B 1) := hB.1 1 (by omega)
  have hval := hs.1 i (by omega)
  unfold pX12_doAt
  rw [r_isChangeN hB hw (by omega), decide_eq_true hx, ob_s, if_pos rfl, r_isIsland hB hw (by omega), decide_eq_true hi, ob_s, if_pos rfl]
  -- the loop over islands
  have lp : ∀ can : Bool, a_loop (fun (y : Bool × Int32) => X12_doAt_b109 (nI kd) (nI x) (nI i) y.1 y.2 s) FU (can, (0 : Int32)) = some (can || (decide (kd = 3) && anN (fun k => (v.1 k).testBit x) (B 1))) := by
    intro can
    have l := lp_f (body := fun (y : Bool × Int32) => X12_doAt_b109 (nI kd) (nI x) (nI i) y.1 y.2 s) (fun k => ((can || (decide (kd = 3) && anN (fun k => (v.1 k).testBit x) k)), nI k)) (x := (can || (decide (kd = 3) && anN (fun k => (v.1 k).testBit x) (B 1)))) (B 1) (by omega) (fun k hk => ?_) ?_
    · rw [show anN (fun k => (v.1 k).testBit x) 0 = false from rfl, Bool.and_false, Bool.or_false] at l
      exact l
    · dsimp only [X12_doAt_b109, X12_doAt_j147, X12_doAt_j151, X12_doAt_j152]
      have hk' := (hv.1 k (by omega)).1
      rw [show g_in (1 : Int32) 1800 = g_in (γ := (Bool × Int32) ⊕ Bool) (nI 1) 1800 from rfl, g_inT (by omega) (by omega), hb1, if_neg (nI_ge hk (by omega)), g114 (by omega), c114 (by omega), hs.1 k (by omega), hasT (by omega) (by omega), ob_s, anN_s, thn_eq, thn_eq, nI_1]
      by_cases c3 : kd = 3
      · rw [if_pos (show nI kd = (3 : Int32) by rw [c3]; rfl), decide_eq_true c3, Bool.true_and, Bool.true_and]
        cases can <;> cases anN (fun k => (v.1 k).testBit x) k <;> cases (v.1 k).testBit x <;> rfl
      · rw [if_neg (show ¬ nI kd = (3 : Int32) from fun q => c3 ((nI_eq (b := 3) (by omega) (by omega)).mp q)), decide_eq_false c3, Bool.false_and, Bool.false_and]
        cases can <;> rfl
    · dsimp only [X12_doAt_b109]
      rw [show g_in (1 : Int32) 1800 = g_in (γ := (Bool × Int32) ⊕ Bool) (nI 1) 1800 from rfl, g_inT (by omega) (by omega), hb1, if_pos (nI_le (Nat.le_refl _) (by omega))]
  have e1 : (1 : Int32) <<< (nI x &&& 31) = nI (2 ^ x) := s1I (by omega)
  have put : ∀ can : Bool, X12_doAt_j104 (nI kd) (nI x) (nI i) can s = if (can || (decide (kd = 3) && anN (fun k => (v.1 k).testBit x) (B 1))) = true then some (uA s 4 (upd (s.2.2.1 4) (114 + i) (nI (v.1 i ||| (2 ^ x ||| B (98 + x)))))) else some (uI s 40 (s.1 40 + (1 : Int32))) := by
    intro can
    unfold X12_doAt_j104
    rw [lp can, ob_s, g114 (show i < 4 by omega), r_hangsOn hB (by omega), ob_s, g114 (show i < 4 by omega), c114 (by omega), hval, e1, orI, orI, thn_eq, thn_eq]
  rcases hkd with rfl | rfl | rfl
  · have v3 := hB.2 (98 + x)
    have d6 : bdf (B (98 + x)) (v.1 i) < 65536 := bdf_lt (n := 16) v3
    rw [if_neg (by decide), if_pos (by decide), r_hangsOn hB (by omega), ob_s, g114 (by omega), c114 (by omega), hval, show (-1 : Int32) = m1I from rfl, dfI, show (0 : Int32) = nI 0 from rfl, ifE (by omega) (by omega)]
    unfold X12_doAt_j103
    have hA : vAt B 0 x i v = if bdf (B (98 + x)) (v.1 i) = 0 then setH v i (v.1 i ||| 2 ^ x) else msd v := if_pos rfl
    rw [hA]
    by_cases c : bdf (B (98 + x)) (v.1 i) = 0
    · have e : v.1 i ||| (2 ^ x ||| B (98 + x)) = v.1 i ||| 2 ^ x := by
        apply Nat.eq_of_testBit_eq
        intro j
        rw [Nat.testBit_or, Nat.testBit_or, Nat.testBit_or]
        cases c' : (B (98 + x)).testBit j with
        | false => rw [Bool.or_false]
        | true => rw [bdf_sub.mp c j c']; rfl
      rw [if_pos c, if_pos c, put true, if_pos (Bool.true_or _), e]
      exact ⟨_, rfl, vrR_setH hs (by omega), rV_uA4 _ _ (by omega)⟩
    · rw [if_neg c, if_neg c, put false, if_neg (by simp)]
      exact ⟨_, rfl, vrR_msd hs, rV_uI _ _ (by omega)⟩
  · have hA : vAt B 2 x i v = setH v i (bdf (v.1 i) (hgr B x ||| 2 ^ x)) := by
      unfold vAt
      rw [if_neg (by decide), if_pos rfl]
    rw [if_pos (by decide), g114 (show i < 4 by omega), g114 (show i < 4 by omega), c114 (by omega), hval, hasT (by omega) (by omega), ob_s, r_hangers hB hw (by omega), ob_s, g114 (show i < 4 by omega), e1, hA]
    cases c : (v.1 i).testBit x with
    | true =>
      have e : nI (v.1 i) &&& ((nI (2 ^ x) ^^^ (-1 : Int32)) &&& (nI (hgr B x) ^^^ (-1 : Int32))) = nI (bdf (v.1 i) (hgr B x ||| 2 ^ x)) := by
        rw [show (-1 : Int32) = m1I from rfl, ← Int32.and_assoc, dfI, dfI, ← bdf_or, Nat.or_comm]
      rw [if_pos rfl, e, thn_eq]
      exact ⟨_, rfl, vrR_setH hs (by omega), rV_uA4 _ _ (by omega)⟩
    | false =>
      have e : bdf (v.1 i) (hgr B x ||| 2 ^ x) = v.1 i := by
        apply Nat.eq_of_testBit_eq
        intro j
        rw [bdf_tb]
        cases c2 : (v.1 i).testBit j with
        | false => rfl
        | true =>
          have hj := tb_lt hH.1 c2
          rw [hgr_tb hj]
          have h1 : (B (98 + j)).testBit x = false := by
            cases c3 : (B (98 + j)).testBit x with
            | false => rfl
            | true => rw [lk_iff.mp hH.2 j hj c2 x c3] at c; cases c
          have h2 : x ≠ j := fun q => by rw [q, c2] at c; cases c
          rw [h1, decide_eq_false h2]; rfl
      rw [if_neg (by decide), e]
      refine ⟨s, rfl, ⟨fun j hj => ?_, hs.2⟩, rV_rf s⟩
      show _ = nI (if j = i then v.1 i else v.1 j)
      by_cases e2 : j = i
      · rw [if_pos e2, e2]; exact hval
      · rw [if_neg e2]; exact hs.1 j hj
  · have hA : vAt B 3 x i v = if anN (fun k => (v.1 k).testBit x) (B 1) then setH v i (v.1 i ||| B (98 + x) ||| 2 ^ x) else msd v := by
      unfold vAt
      rw [if_neg (by decide), if_neg (by decide)]
    unfold X12_doAt_j103
    rw [if_neg (by decide), if_neg (by decide), put false, hA, decide_eq_true rfl, Bool.false_or, Bool.true_and]
    cases anN (fun k => (v.1 k).testBit x) (B 1) with
    | true =>
      rw [if_pos rfl, if_pos rfl, show v.1 i ||| (2 ^ x ||| B (98 + x)) = v.1 i ||| B (98 + x) ||| 2 ^ x by rw [Nat.or_comm (2 ^ x), Nat.or_assoc]]
      exact ⟨_, rfl, vrR_setH hs (by omega), rV_uA4 _ _ (by omega)⟩
    | false =>
      rw [if_neg (by decide), if_neg (by decide)]
      exact ⟨_, rfl, vrR_msd hs, rV_uI _ _ (by omega)⟩
/-- the word of a STEP in the class -/
def wdA (kd : Nat) : Nat := if kd = 0 then 11 else if kd = 2 then 17 else 18
theorem x_alter {lg : RS} (hR : bkR B r) (hw : wfB B) (hv : vW B v) (hq : vrX v q) {kd x i : Nat} (hkd : kd = 0 ∨ kd = 2 ∨ kd = 3) (hx : x < B 0) (hi : i < B 1) : ∃ b q', pX10_alter q r lg (nI (wdA kd)) (nI i) (nI x) = some (b, q') ∧ qV q q' ∧ vrX (vAt B kd x i v) (if b = true then q' else uI q' 3 (q'.1 3 + (1 : Int32))) := by
  have h16 := hw.1
  have h4 := hw.2.1
  have p16 : 2 ^ B 0 ≤ 2 ^ 16 := Nat.pow_le_pow_right (by decide) h16
  have hH := hv.1 i (by omega)
  have hval := hq.1 i (by omega)
  have gi : ∀ {γ : Type} (e : Option γ), g_in (nI i) 4 e = e := fun e => g_inT (by omega) (by omega)
  unfold pX10_alter
  rw [x_isIslandN hR hw (by omega), decide_eq_true hi, ob_s, if_pos rfl, x_isChange hR hw (by omega), decide_eq_true hx, ob_s, if_pos rfl]
  simp only [gi]
  rw [nI_clamp (by omega), nI_clamp (by omega), hval, (hR.2.2.2 x hx).2.2.2.2.2.2.1]
  have e1 : (1 : Int32) <<< (nI x &&& 31) = nI (2 ^ x) := s1I (by omega)
  rcases hkd with rfl | rfl | rfl
  · have v3 := (wfB_v hw hx).1
    have d6 : bdf (B (98 + x)) (v.1 i) < 65536 := bdf_lt (n := 16) v3
    have hA : vAt B 0 x i v = if bdf (B (98 + x)) (v.1 i) = 0 then setH v i (v.1 i ||| 2 ^ x) else msd v := if_pos rfl
    rw [if_pos (by decide), g_inT (by omega) (by omega), show (-1 : Int32) = m1I from rfl, dfI, show (0 : Int32) = nI 0 from rfl, ifE (by omega) (by omega), e1, orI, hA, thn_eq]
    by_cases c : bdf (B (98 + x)) (v.1 i) = 0
    · rw [if_pos c, if_pos c]
      exact ⟨true, _, rfl, rfl, vrX_setH hq⟩
    · rw [if_neg c, if_neg c]
      exact ⟨false, q, rfl, rfl, vrX_msd hq⟩
  · have hA : vAt B 2 x i v = setH v i (bdf (v.1 i) (hgr B x ||| 2 ^ x)) := by
      unfold vAt
      rw [if_neg (by decide), if_pos rfl]
    rw [if_neg (by decide), if_pos (by decide), x_without hR hw hx, ob_s, thn_eq, hA]
    exact ⟨true, _, rfl, rfl, vrX_setH hq⟩
  · have hA : vAt B 3 x i v = if anN (fun k => (v.1 k).testBit x) (B 1) then setH v i (v.1 i ||| B (98 + x) ||| 2 ^ x) else msd v := by
      unfold vAt
      rw [if_neg (by decide), if_neg (by decide)]
    have any : pX10_isAnywhere q r lg (nI x) = some (anN (fun k => (v.1 k).testBit x) (B 1)) := by
      unfold pX10_isAnywhere
      refine bd (lp_any (fun k => (v.1 k).testBit x) (B 1) (by omega) (fun k hk => ?_) ?_) ?_
      · dsimp only [X10_isAnywhere_b2]
        have hk' := (hv.1 k (by omega)).1
        rw [hR.1, if_neg (nI_ge hk (by omega)), g_inT (by omega) (by omega), nI_clamp (by omega), hq.1 k (by omega), isInT (by omega) (by omega), ob_s, thn_eq, nI_1]
      · dsimp only [X10_isAnywhere_b2]
        rw [hR.1, if_pos (nI_le (Nat.le_refl _) (by omega))]
      · cases anN (fun k => (v.1 k).testBit x) (B 1) <;> rfl
    rw [if_neg (by decide), if_neg (by decide), any, ob_s, x_including hR hw hx, ob_s, thn_eq, hA]
    cases anN (fun k => (v.1 k).testBit x) (B 1) with
    | true => exact ⟨true, _, rfl, rfl, vrX_setH hq⟩
    | false => exact ⟨false, q, rfl, rfl, vrX_msd hq⟩
end V
