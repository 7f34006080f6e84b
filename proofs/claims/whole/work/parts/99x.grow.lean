/-! BOOKS: one CHANGE more -/
def agB (B B' : Nat → Nat) (k : Nat) : Prop := B' 1 = B 1 ∧ (∀ i, i < k → B' (2 + i) = B (2 + i)) ∧ (∀ i, i < k → B' (18 + i) = B (18 + i)) ∧ (∀ i, i < k → B' (34 + i) = B (34 + i)) ∧ (∀ i, i < k → B' (50 + i) = B (50 + i)) ∧ (∀ i, i < k → B' (66 + i) = B (66 + i)) ∧ (∀ i, i < k → B' (82 + i) = B (82 + i)) ∧ ∀ i, i < k → B' (98 + i) = B (98 + i)
theorem agB_tr {B B' B'' : Nat → Nat} {k : Nat} (h : agB B B' k) (g : agB B' B'' k) : agB B B'' k := ⟨g.1.trans h.1, fun i hi => (g.2.1 i hi).trans (h.2.1 i hi), fun i hi => (g.2.2.1 i hi).trans (h.2.2.1 i hi), fun i hi => (g.2.2.2.1 i hi).trans (h.2.2.2.1 i hi), fun i hi => (g.2.2.2.2.1 i hi).trans (h.2.2.2.2.1 i hi), fun i hi => (g.2.2.2.2.2.1 i hi).trans (h.2.2.2.2.2.1 i hi), fun i hi => (g.2.2.2.2.2.2.1 i hi).trans (h.2.2.2.2.2.2.1 i hi), fun i hi => (g.2.2.2.2.2.2.2 i hi).trans (h.2.2.2.2.2.2.2 i hi)⟩
theorem agB_rf (B : Nat → Nat) (k : Nat) : agB B B k := ⟨rfl, fun _ _ => rfl, fun _ _ => rfl, fun _ _ => rfl, fun _ _ => rfl, fun _ _ => rfl, fun _ _ => rfl, fun _ _ => rfl⟩
/-- one number of a block is another -/
def upN (B : Nat → Nat) (j v i : Nat) : Nat := if i = j then v else B i
theorem upN_at (B : Nat → Nat) (j v : Nat) : upN B j v j = v := if_pos rfl
theorem upN_ne (B : Nat → Nat) {j i : Nat} (v : Nat) (h : i ≠ j) : upN B j v i = B i := if_neg h
theorem agB_up (B : Nat → Nat) {k j : Nat} (v : Nat) (hk : k < 16) (hj : j = 0 ∨ j = 2 + k ∨ j = 18 + k ∨ j = 34 + k ∨ j = 50 + k ∨ j = 66 + k ∨ j = 82 + k ∨ j = 98 + k) : agB B (upN B j v) k := ⟨upN_ne _ _ (by omega), fun i hi => upN_ne _ _ (by omega), fun i hi => upN_ne _ _ (by omega), fun i hi => upN_ne _ _ (by omega), fun i hi => upN_ne _ _ (by omega), fun i hi => upN_ne _ _ (by omega), fun i hi => upN_ne _ _ (by omega), fun i hi => upN_ne _ _ (by omega)⟩
theorem blk_up {c : Nat → Int32} {o j v : Nat} {B : Nat → Nat} (h : blk c o B) (hv : v < 65536) : blk (upd c (o + j) (nI v)) o (upN B j v) := by
  refine ⟨fun i hi => ?_, fun i => ?_⟩
  · by_cases c1 : i = j
    · rw [c1, upd_at, upN_at]
    · rw [upd_ne _ _ (by omega), upN_ne _ _ c1]; exact h.1 i hi
  · by_cases c1 : i = j
    · rw [c1, upN_at]; exact hv
    · rw [upN_ne _ _ c1]; exact h.2 i
section G
variable {B B' : Nat → Nat} {k : Nat}
theorem g_thF (hw : wfB B) (h0 : B 0 = k) (hg : agB B B' k) : ∀ n i, i < k → thF B' n i = thF B n i
  | 0, i, _ => rfl
  | n + 1, i, hi => by
    unfold thF
    rw [hg.2.1 i hi, hg.2.2.2.2.1 i hi]
    by_cases c : B (2 + i) = 0
    · rw [if_pos c, if_pos c]
    · rw [if_neg c, if_neg c]
      have := ((hw.2.2 i (by omega)).2.2.2.2.1 c).1
      exact g_thF hw h0 hg n _ (by omega)
theorem g_th (hw : wfB B) (h0 : B 0 = k) (hg : agB B B' k) {i : Nat} (hi : i < k) : thB B' i = thB B i := g_thF hw h0 hg _ i hi
theorem g_wq (hw : wfB B) (h0 : B 0 = k) (hg : agB B B' k) {i j : Nat} (hi : i < k) (hj : j < k) : wq B' i j = wq B i j := by
  unfold wq
  rw [hg.2.1 i hi, hg.2.1 j hj, hg.2.2.2.2.2.2.2 i hi, hg.2.2.2.2.2.2.2 j hj, g_th hw h0 hg hi, g_th hw h0 hg hj]
theorem g_lv (hg : agB B B' k) : ∀ n i, i < k → lvF B' n i = lvF B n i
  | 0, i, _ => rfl
  | n + 1, i, hi => by
    unfold lvF
    apply mxN_cg
    intro j hj
    rw [hg.2.2.2.2.2.2.1 i hi, g_lv hg n j (by omega)]
/-- the new CHANGE k -/
def nwB (B B' : Nat → Nat) (k : Nat) : Prop := B' (2 + k) ≤ 4 ∧ B' (82 + k) < 2 ^ k ∧ B' (98 + k) < 2 ^ k ∧ (∀ i, (B' (98 + k)).testBit i = ((B' (82 + k)).testBit i || anN (fun j => (B' (82 + k)).testBit j && (B (98 + j)).testBit i) k)) ∧ (B' (2 + k) ≠ 0 → B' (50 + k) < k ∧ (B' (82 + k)).testBit (B' (50 + k)) = true) ∧ (B' (2 + k) = 1 ∨ B' (2 + k) = 2 ∨ B' (2 + k) = 3 → B (2 + B' (50 + k)) ≠ 1 ∧ B (2 + B' (50 + k)) ≠ 4) ∧ (B' (2 + k) = 4 → B' (66 + k) < k ∧ (B' (82 + k)).testBit (B' (66 + k)) = true ∧ wq B (B' (50 + k)) (B' (66 + k)) = true)
theorem g_wf (hw : wfB B) (h0 : B 0 = k) (h0' : B' 0 = k + 1) (hk : k < 16) (hg : agB B B' k) (hn : nwB B B' k) : wfB B' := by
  obtain ⟨n1, n2, n3, n4, n5, n6, n7⟩ := hn
  refine ⟨by omega, by rw [hg.1]; exact hw.2.1, fun i hi => ?_⟩
  by_cases c : i = k
  · subst c
    refine ⟨n1, n3, n2, fun x => ?_, n5, fun q => ?_, fun q => ?_⟩
    · rw [n4 x]
      congr 1
      apply anN_cg
      intro j hj
      rw [hg.2.2.2.2.2.2.2 j hj]
    · have o := (n5 (by omega)).1
      rw [hg.2.1 _ o]; exact n6 q
    · have o := (n5 (by omega)).1
      obtain ⟨m1, m2, m3⟩ := n7 q
      refine ⟨m1, m2, ?_⟩
      rw [g_wq hw h0 hg o m1]; exact m3
  · have hi' : i < k := by omega
    obtain ⟨m1, m2, m3, m4, m5, m6, m7⟩ := hw.2.2 i (by omega)
    rw [hg.2.1 i hi', hg.2.2.2.2.1 i hi', hg.2.2.2.2.2.1 i hi', hg.2.2.2.2.2.2.1 i hi', hg.2.2.2.2.2.2.2 i hi']
    refine ⟨m1, m2, m3, fun x => ?_, m5, fun q => ?_, fun q => ?_⟩
    · rw [m4 x]
      congr 1
      apply anN_cg
      intro j hj
      rw [hg.2.2.2.2.2.2.2 j (by omega)]
    · have o := (m5 (by omega)).1
      rw [hg.2.1 _ (by omega)]; exact m6 q
    · have o := (m5 (by omega)).1
      obtain ⟨p1, p2, p3⟩ := m7 q
      refine ⟨p1, p2, ?_⟩
      rw [g_wq hw h0 hg (by omega) (by omega)]; exact p3
theorem fgt_sy (a b : Nat) : fgt a b = fgt b a := by
  unfold fgt
  cases (a == 2) <;> cases (a == 3) <;> cases (a == 1) <;> cases (b == 2) <;> cases (b == 3) <;> cases (b == 1) <;> rfl
/-- whether CHANGE i would quarrel with the new one -/
def gwq (B B' : Nat → Nat) (k i : Nat) : Bool := !(B' (98 + k)).testBit i && thB B i == thB B' k && fgt (B (2 + i)) (B' (2 + k))
theorem g_wqk (hw : wfB B) (h0 : B 0 = k) (hg : agB B B' k) {i : Nat} (hi : i < k) : wq B' i k = gwq B B' k i ∧ wq B' k i = gwq B B' k i := by
  have hb := (hw.2.2 i (by omega)).2.1
  have t : (B (98 + i)).testBit k = false := tbF hb (by omega)
  have e1 : (i == k) = false := by simp; omega
  have e2 : (k == i) = false := by simp; omega
  unfold wq gwq
  rw [hg.2.1 i hi, hg.2.2.2.2.2.2.2 i hi, g_th hw h0 hg hi, t, e1, e2, fgt_sy (B' (2 + k)) (B (2 + i))]
  have e3 : (thB B' k == thB B i) = (thB B i == thB B' k) := by
    by_cases c : thB B i = thB B' k
    · rw [c]
    · rw [show (thB B' k == thB B i) = false by simp; exact fun h => c h.symm, show (thB B i == thB B' k) = false by simp; exact c]
  rw [e3]
  constructor
  · cases fgt (B (2 + i)) (B' (2 + k)) <;> cases (thB B i == thB B' k) <;> cases (B' (98 + k)).testBit i <;> rfl
  · cases fgt (B (2 + i)) (B' (2 + k)) <;> cases (thB B i == thB B' k) <;> cases (B' (98 + k)).testBit i <;> rfl
theorem mkN_k (p : Nat → Bool) (n : Nat) : mkN p (n + 1) = mkN p n ||| (if p n then 2 ^ n else 0) := rfl
theorem g_hgr (h0 : B 0 = k) (h0' : B' 0 = k + 1) (hg : agB B B' k) (i : Nat) : hgr B' i = hgr B i ||| (if (B' (98 + k)).testBit i then 2 ^ k else 0) := by
  unfold hgr
  rw [h0, h0', mkN_k]
  congr 1
  apply mkN_cg
  intro j hj
  rw [hg.2.2.2.2.2.2.2 j hj]
theorem g_hgr_k (hw : wfB B) (h0 : B 0 = k) (h0' : B' 0 = k + 1) (hg : agB B B' k) (h98 : B' (98 + k) < 2 ^ k) : hgr B' k = 0 := by
  rw [g_hgr h0 h0' hg k, tbF h98 (Nat.le_refl _), if_neg Bool.false_ne_true, Nat.or_zero]
  apply Nat.eq_of_testBit_eq
  intro i
  rw [hgr, mkN_tb, Nat.zero_testBit]
  by_cases c : i < B 0
  · rw [tbF (hw.2.2 i c).2.1 (by omega), Bool.and_false]
  · rw [decide_eq_false c, Bool.false_and]
theorem g_foe (hw : wfB B) (h0 : B 0 = k) (h0' : B' 0 = k + 1) (hg : agB B B' k) {i : Nat} (hi : i < k) : foe B' i = foe B i ||| (if gwq B B' k i then 2 ^ k else 0) := by
  unfold foe
  rw [h0, h0', mkN_k, (g_wqk hw h0 hg hi).1]
  congr 1
  apply mkN_cg
  intro j hj
  rw [g_wq hw h0 hg hi hj]
theorem g_foe_k (hw : wfB B) (h0 : B 0 = k) (h0' : B' 0 = k + 1) (hg : agB B B' k) : foe B' k = mkN (gwq B B' k) k := by
  unfold foe
  rw [h0', mkN_k, show wq B' k k = false by unfold wq; simp, if_neg Bool.false_ne_true, Nat.or_zero]
  apply mkN_cg
  intro j hj
  rw [(g_wqk hw h0 hg hj).2]
theorem g_lvk (hg : agB B B' k) : lvB B' k = mxN (fun i => if (B' (82 + k)).testBit i then lvB B i + 1 else 0) k := by
  unfold lvB
  show mxN (fun i => if (B' (82 + k)).testBit i then lvF B' k i + 1 else 0) k = _
  apply mxN_cg
  intro i hi
  rw [g_lv hg k i hi, lvF_ok k (i + 1) i hi (by omega)]
end G
