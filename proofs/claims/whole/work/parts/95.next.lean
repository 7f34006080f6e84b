/-! TEXTS: the reference's next token -/
def tokR (b : Nat → Nat) (e st : Nat) (s : RS) : Prop := s.1 15 = nI st ∧ s.1 14 = nI (tkK b e st) ∧ s.1 16 = nI (tkB b e st) ∧ (tkK b e st = 1 → s.1 18 = nI (tkB b e st - st) ∧ s.2.1 19 = acL b st (tkB b e st - st)) ∧ (tkK b e st = 2 → s.1 17 = nI (acD b st (tkB b e st - st)))
def nxS (s s' : RS) : Prop := (∀ j, (j < 14 ∨ 18 < j) → s'.1 j = s.1 j) ∧ (∀ j, j ≠ 19 → s'.2.1 j = s.2.1 j) ∧ s'.2.2 = s.2.2
theorem nxS_rf (s : RS) : nxS s s := ⟨fun _ _ => rfl, fun _ _ => rfl, rfl⟩
theorem nxS_tr {a b c : RS} (h : nxS a b) (k : nxS b c) : nxS a c := ⟨fun j hj => (k.1 j hj).trans (h.1 j hj), fun j hj => (k.2.1 j hj).trans (h.2.1 j hj), k.2.2.trans h.2.2⟩
theorem nxS_uI (s : RS) {k : Nat} (v : Int32) (hk : 14 ≤ k ∧ k ≤ 18) : nxS s (uI s k v) := ⟨fun j hj => if_neg (show ¬ j = k by omega), fun _ _ => rfl, rfl⟩
theorem nxS_uL (s : RS) (v : Int64) : nxS s (uL s 19 v) := ⟨fun _ _ => rfl, fun j hj => if_neg hj, rfl⟩
theorem nxS_tx {b : Nat → Nat} {e : Nat} {s s' : RS} (h : nxS s s') (t : txR b e s) : txR b e s' := ⟨(h.1 9 (by omega)).trans t.1, t.2.1, fun i hi => by rw [h.2.2]; exact t.2.2 i hi⟩
theorem tkS_le {b : Nat → Nat} {e p : Nat} (h : p ≤ e) : p ≤ tkS b e p ∧ tkS b e p ≤ e := by
  have := scn_le (fun i => isBl (b i)) (e - p) p
  unfold tkS
  omega
theorem tkW_le {b : Nat → Nat} {e p : Nat} (h : p ≤ e) : p ≤ tkW b e p ∧ tkW b e p ≤ e := by
  have := scn_le (fun i => isLt (b i)) (e - p) p
  unfold tkW
  omega
theorem tkD_le {b : Nat → Nat} {e p : Nat} (h : p ≤ e) : p ≤ tkD b e p ∧ tkD b e p ≤ e := by
  have := scn_le (fun i => isDg (b i)) (e - p) p
  unfold tkD
  omega
theorem tkB_le {b : Nat → Nat} {e p : Nat} (h : p ≤ e) : p ≤ tkB b e p ∧ tkB b e p ≤ e := by
  have h1 := tkW_le (b := b) h
  have h2 := tkD_le (b := b) h
  unfold tkB
  by_cases c : e ≤ p
  · rw [if_pos c]; omega
  · rw [if_neg c]
    cases isLt (b p) with
    | true => rw [if_pos rfl]; exact h1
    | false =>
      rw [if_neg (by decide)]
      cases isDg (b p) with
      | true => rw [if_pos rfl]; exact h2
      | false => rw [if_neg (by decide)]; omega
section V
variable {s : RS} {b : Nat → Nat} {e : Nat}
theorem r_next (ht : txR b e s) {p : Nat} (hp : p ≤ e) (h16 : s.1 16 = nI p) : ∃ s', pX12_next s = some s' ∧ tokR b e (tkS b e p) s' ∧ nxS s s' := by
  have he := ht.2.1
  unfold pX12_next
  rw [h16, thn_eq]
  have sk := r_skip (b := b) (e - p) p (uI s 15 (nI p)) FU ⟨by rw [show p + (e - p) = e by omega]; exact ht.1, by omega, fun i hi => ht.2.2 i (by omega)⟩ rfl (by show _ < 100000; omega)
  rw [sk, ob_s, uI_uI]
  have hst := tkS_le (b := b) hp
  show ∃ s', X12_next_j58 (uI s 15 (nI (tkS b e p))) = some s' ∧ _
  generalize tkS b e p = st at hst
  have n1 : nxS s (uI s 15 (nI st)) := nxS_uI _ _ (by omega)
  unfold X12_next_j58
  rw [show (uI s 15 (nI st)).1 15 = nI st from rfl, thn_eq]
  have n2 : nxS s (uI (uI s 15 (nI st)) 16 (nI st)) := nxS_tr n1 (nxS_uI _ _ (by omega))
  have k15 : (uI (uI s 15 (nI st)) 16 (nI st)).1 15 = nI st := rfl
  have k16 : (uI (uI s 15 (nI st)) 16 (nI st)).1 16 = nI st := rfl
  generalize uI (uI s 15 (nI st)) 16 (nI st) = s6 at n2 k15 k16
  have t6 := nxS_tx n2 ht
  rw [k15, t6.1, ifLt (by omega) (by omega)]
  by_cases c : st < e
  · have hb := (ht.2.2 st c).1
    rw [if_pos c, r_look t6 c, ob_s, r_isLt hb, ob_s]
    cases cl : isLt (b st) with
    | true =>
      rw [if_pos rfl, thn_eq, thn_eq]
      have n3 : nxS s6 (uL (uI s6 14 (1 : Int32)) 19 (0 : Int64)) := nxS_tr (nxS_uI _ _ (by omega)) (nxS_uL _ _)
      have w := r_word (b := b) st (e - st) 0 (uL (uI s6 14 (1 : Int32)) 19 (0 : Int64)) FU ⟨by rw [show st + 0 + (e - st) = e by omega]; exact t6.1, by omega, fun i hi => t6.2.2 i (by omega)⟩ k15 k16 (uL_at _ _ _) (by show _ < 100000; omega)
      rw [w, ob_s, thn_eq]
      have hW := tkW_le (b := b) (e := e) (p := st) (by omega)
      have eW : scn (fun i => isLt (b i)) (e - st) (st + 0) = tkW b e st := rfl
      rw [eW, uL_uL]
      have n4 : nxS s6 (uI (uL (uI s6 14 (1 : Int32)) 19 (acL b st (tkW b e st - st))) 16 (nI (tkW b e st))) := nxS_tr (nxS_tr (nxS_uI _ _ (by omega)) (nxS_uL _ _)) (nxS_uI _ _ (by omega))
      have ek : tkK b e st = 1 := by unfold tkK; rw [if_neg (by omega), cl, if_pos rfl]
      have eB : tkB b e st = tkW b e st := by unfold tkB; rw [if_neg (by omega), cl, if_pos rfl]
      have e18 : (uI (uL (uI s6 14 (1 : Int32)) 19 (acL b st (tkW b e st - st))) 16 (nI (tkW b e st))).1 16 - (uI (uL (uI s6 14 (1 : Int32)) 19 (acL b st (tkW b e st - st))) 16 (nI (tkW b e st))).1 15 = nI (tkW b e st - st) := by
        show nI (tkW b e st) - s6.1 15 = _
        rw [k15, sbI (by omega)]
      rw [e18]
      refine ⟨_, rfl, ⟨k15, ?_, ?_, fun _ => ⟨?_, ?_⟩, fun q => ?_⟩, nxS_tr n2 (nxS_tr n4 (nxS_uI _ _ (by omega)))⟩
      · rw [ek]; rfl
      · rw [eB]; rfl
      · rw [eB]; rfl
      · rw [eB]; exact uL_at _ _ _
      · rw [ek] at q; cases q
    | false =>
      rw [if_neg (by decide), r_isDg hb, ob_s]
      cases cd : isDg (b st) with
      | true =>
        rw [if_pos rfl, thn_eq]
        have d := r_digs (b := b) st (e - st) 0 (uI s6 17 (0 : Int32)) FU ⟨by rw [show st + 0 + (e - st) = e by omega]; exact t6.1, by omega, fun i hi => t6.2.2 i (by omega)⟩ k15 k16 rfl (by show _ < 100000; omega)
        rw [d, ob_s]
        have hD := tkD_le (b := b) (e := e) (p := st) (by omega)
        have eD : scn (fun i => isDg (b i)) (e - st) (st + 0) = tkD b e st := rfl
        rw [eD, uI_uI]
        have n4 : nxS s6 (uI (uI s6 17 (nI (acD b st (tkD b e st - st)))) 16 (nI (tkD b e st))) := nxS_tr (nxS_uI _ _ (by omega)) (nxS_uI _ _ (by omega))
        have eB : tkB b e st = tkD b e st := by unfold tkB; rw [if_neg (by omega), cl, if_neg (by decide), cd, if_pos rfl]
        have ek : tkK b e st = if tkD b e st - st ≤ 4 then 2 else 4 := by unfold tkK; rw [if_neg (by omega), cl, if_neg (by decide), cd, if_pos rfl]
        have e18 : (uI (uI s6 17 (nI (acD b st (tkD b e st - st)))) 16 (nI (tkD b e st))).1 16 - (uI (uI s6 17 (nI (acD b st (tkD b e st - st)))) 16 (nI (tkD b e st))).1 15 = nI (tkD b e st - st) := by
          show nI (tkD b e st) - s6.1 15 = _
          rw [k15, sbI (by omega)]
        rw [e18, show (4 : Int32) = nI 4 from rfl, ifLe (by omega) (by omega)]
        unfold X12_next_j292
        by_cases c4 : tkD b e st - st ≤ 4
        · rw [if_pos c4, thn_eq]
          rw [if_pos c4] at ek
          refine ⟨_, rfl, ⟨k15, ?_, ?_, fun q => ?_, fun _ => ?_⟩, nxS_tr n2 (nxS_tr n4 (nxS_uI _ _ (by omega)))⟩
          · rw [ek]; rfl
          · rw [eB]; rfl
          · rw [ek] at q; cases q
          · rw [eB]; rfl
        · rw [if_neg c4, thn_eq]
          rw [if_neg c4] at ek
          refine ⟨_, rfl, ⟨k15, ?_, ?_, fun q => ?_, fun q => ?_⟩, nxS_tr n2 (nxS_tr n4 (nxS_uI _ _ (by omega)))⟩
          · rw [ek]; rfl
          · rw [eB]; rfl
          · rw [ek] at q; cases q
          · rw [ek] at q; cases q
      | false =>
        have eB : tkB b e st = st + 1 := by unfold tkB; rw [if_neg (by omega), cl, if_neg (by decide), cd, if_neg (by decide)]
        have ek : tkK b e st = if b st = 59 then 3 else 4 := by unfold tkK; rw [if_neg (by omega), cl, if_neg (by decide), cd, if_neg (by decide)]
        rw [if_neg (by decide), nI_1, thn_eq, show (59 : Int32) = nI 59 from rfl, ifE (by omega) (by omega)]
        unfold X12_next_j320
        by_cases c9 : b st = 59
        · rw [if_pos c9, thn_eq]
          rw [if_pos c9] at ek
          refine ⟨_, rfl, ⟨k15, ?_, ?_, fun q => ?_, fun q => ?_⟩, nxS_tr n2 (nxS_tr (nxS_uI _ _ (by omega)) (nxS_uI _ _ (by omega)))⟩
          · rw [ek]; rfl
          · rw [eB]; rfl
          · rw [ek] at q; cases q
          · rw [ek] at q; cases q
        · rw [if_neg c9, thn_eq]
          rw [if_neg c9] at ek
          refine ⟨_, rfl, ⟨k15, ?_, ?_, fun q => ?_, fun q => ?_⟩, nxS_tr n2 (nxS_tr (nxS_uI _ _ (by omega)) (nxS_uI _ _ (by omega)))⟩
          · rw [ek]; rfl
          · rw [eB]; rfl
          · rw [ek] at q; cases q
          · rw [ek] at q; cases q
  · have ek : tkK b e st = 0 := by unfold tkK; rw [if_pos (by omega)]
    have eB : tkB b e st = st := by unfold tkB; rw [if_pos (by omega)]
    rw [if_neg c, thn_eq]
    refine ⟨_, rfl, ⟨k15, ?_, ?_, fun q => ?_, fun q => ?_⟩, nxS_tr n2 (nxS_uI _ _ (by omega))⟩
    · rw [ek]; rfl
    · rw [eB]; exact k16
    · rw [ek] at q; cases q
    · rw [ek] at q; cases q
end V
