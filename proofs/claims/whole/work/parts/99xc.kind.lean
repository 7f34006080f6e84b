/-! BOOKS: the reference's new block -/
section R
variable {s : RS} {B : Nat → Nat}
theorem n_kind (hB : blk (s.2.2.1 4) 1440 B) {k : Nat} (hk : k < 16) : pX12_kind s (1440 : Int32) (nI k) = some (nI (B (2 + k))) := by
  unfold pX12_kind
  rw [show (1440 : Int32) = nI 1440 from rfl, ad2, nI_add, g_inT (by omega) (by omega), nI_clamp (by omega), show 1440 + 2 + k = 1440 + (2 + k) by omega, hB.1 (2 + k) (by omega)]
theorem n_hangsOn (hB : blk (s.2.2.1 4) 1440 B) {k : Nat} (hk : k < 16) : pX12_hangsOn s (1440 : Int32) (nI k) = some (nI (B (98 + k))) := by
  unfold pX12_hangsOn
  rw [show (1440 : Int32) = nI 1440 from rfl, show (98 : Int32) = nI 98 from rfl, nI_add, nI_add, g_inT (by omega) (by omega), nI_clamp (by omega), show 1440 + 98 + k = 1440 + (98 + k) by omega, hB.1 (98 + k) (by omega)]
theorem n_thingOf (hB : blk (s.2.2.1 4) 1440 B) (hw : wfB B) {k : Nat} (hk : k < B 0) : pX12_thingOf s (1440 : Int32) (nI k) = some (nI (thB B k)) := by
  have h16 := hw.1
  unfold pX12_thingOf
  obtain ⟨x, h1, h2⟩ := lp_m (body := fun (q : Int32) => X12_thingOf_b2 (1440 : Int32) q s) (I := fun j q => j < B 0 ∧ q = nI j ∧ thB B j = thB B k) (P := fun x => x = nI (thB B k)) (fun j q hi => by
    obtain ⟨hj, rfl, he⟩ := hi
    dsimp only [X12_thingOf_b2]
    rw [n_kind hB (by omega), ob_s]
    by_cases e : B (2 + j) = 0
    · refine Or.inr ⟨nI j, ?_, ?_⟩
      · rw [← he, thB_put e]
      · rw [if_pos (by rw [e]; rfl)]
    · have h3 := ((hw.2.2 j hj).2.2.2.2.1 e).1
      refine Or.inl ⟨_, nI (B (50 + j)), h3, ⟨by omega, rfl, ?_⟩, ?_⟩
      · rw [← he, thB_of hw hj e]
      · have h4 := hB.2 (2 + j)
        rw [if_neg (show ¬ nI (B (2 + j)) = (0 : Int32) from fun q => e ((nI_eq (b := 0) (by omega) (by omega)).mp q)), show (1440 : Int32) = nI 1440 from rfl, show (50 : Int32) = nI 50 from rfl, nI_add, nI_add, g_inT (by omega) (by omega), nI_clamp (by omega), show 1440 + 50 + j = 1440 + (50 + j) by omega, hB.1 (50 + j) (by omega), thn_eq]) FU k (nI k) (by show k < 100000; omega) ⟨hk, rfl, rfl⟩
  rw [h1, h2]; rfl
theorem n_wouldQuarrel (hB : blk (s.2.2.1 4) 1440 B) (hw : wfB B) {a b : Nat} (ha : a < B 0) (hb : b < B 0) : pX12_wouldQuarrel s (1440 : Int32) (nI a) (nI b) = some (wq B a b) := by
  have h16 := hw.1
  have k1 := (hw.2.2 a ha).1
  have k2 := (hw.2.2 b hb).1
  have v1 := hB.2 (98 + a)
  have v2 := hB.2 (98 + b)
  have t1 := (thB_lt hw ha).1
  have t2 := (thB_lt hw hb).1
  unfold pX12_wouldQuarrel wq
  rw [ifE (by omega) (by omega)]
  by_cases e : a = b
  · rw [if_pos e, e]; simp
  · rw [if_neg e, n_kind hB (by omega), n_kind hB (by omega), ob_s, ob_s, r_fight k1 k2, ob_s, n_thingOf hB hw ha, n_thingOf hB hw hb, n_hangsOn hB (by omega), n_hangsOn hB (by omega)]
    simp only [ob_s]
    rw [shI (by omega) (by omega), shI (by omega) (by omega), show (1 : Int32) = nI 1 from rfl, b1I, b1I, show (0 : Int32) = nI 0 from rfl, ifT0, ifT0, ifE (by omega) (by omega)]
    have e0 : (a == b) = false := by simpa using e
    rw [e0]
    cases fgt (B (2 + a)) (B (2 + b)) with
    | false => rfl
    | true =>
      by_cases e2 : thB B a = thB B b
      · rw [e2]
        cases (B (98 + a)).testBit b <;> cases (B (98 + b)).testBit a <;> simp
      · have e3 : (thB B a == thB B b) = false := by simpa using e2
        rw [e3]; simp [e2]
end R
