/-! AGREED -/
def alk (H : Nat → Nat) (m : Nat) : Bool := alN (fun i => decide (H i = H 0)) m
theorem alk_1 (H : Nat → Nat) : alk H 1 = true := by
  unfold alk
  exact alN_iff.mpr (fun k hk => by rw [show k = 0 by omega]; exact decide_eq_true rfl)
def fq (b2 b3 : Nat) (f : Nat → Option Nat) : Nat → Option Nat := va_up (va_up f 7 (some b2)) 8 (some b3)
theorem fq_fq (b2 b3 : Nat) (f : Nat → Option Nat) : fq b2 b3 (fq b2 b3 f) = fq b2 b3 f := by
  funext j
  unfold fq va_up
  by_cases c : j = 8
  · rw [if_pos c, if_pos c]
  · rw [if_neg c, if_neg c]
    by_cases d : j = 7
    · rw [if_pos d, if_pos d]
    · rw [if_neg d, if_neg d]
section V
variable {s q r lg s0 s1 s4 : RS} {B : Nat → Nat} {v : VS} {c : Nat → Int32} {H : Nat → Nat} {R T b0 b2 b3 : Nat} {f4 : Nat → Option Nat}
theorem x_alike (hR : bkR B r) (hw : wfB B) (hv : vW B v) (hq : vrX v q) : pX10_allAlike q r lg = some (alk v.1 (B 1)) := by
  have i4 := hw.2.1
  have p16 : 2 ^ B 0 ≤ 2 ^ 16 := Nat.pow_le_pow_right (by decide) hw.1
  have hv0 := (hv.1 0 (by omega)).1
  unfold pX10_allAlike
  have key : ∀ (m k N : Nat), 1 ≤ k → k + m = 5 → (∀ j, j < k → v.1 j = v.1 0) → m < N → (a_loop (fun (y : Int32) => X10_allAlike_b2 y q r lg) N (nI k)).bind (Sum.elim (fun (t2 : Unit) => some false) (fun (t3 : Unit) => some true)) = some (alk v.1 (B 1)) := by
    intro m
    induction m with
    | zero =>
      intro k N hk hm hj hN
      obtain ⟨M, rfl⟩ := Nat.exists_eq_succ_of_ne_zero (show N ≠ 0 by omega)
      have hb : (fun (y : Int32) => X10_allAlike_b2 y q r lg) (nI k) = some (.inr (.inr ())) := by
        dsimp only [X10_allAlike_b2]
        rw [hR.1, if_pos (nI_le (by omega) (by omega))]
      rw [lp_e hb, ob_s, show alk v.1 (B 1) = true from alN_iff.mpr (fun j h => decide_eq_true (hj j (by omega)))]; rfl
    | succ m ih =>
      intro k N hk hm hj hN
      obtain ⟨M, rfl⟩ := Nat.exists_eq_succ_of_ne_zero (show N ≠ 0 by omega)
      by_cases ck : k < B 1
      · have hk' := (hv.1 k (by omega)).1
        have hb : (fun (y : Int32) => X10_allAlike_b2 y q r lg) (nI k) = if v.1 k = v.1 0 then some (.inl (nI (k + 1))) else some (.inr (.inl ())) := by
          dsimp only [X10_allAlike_b2]
          rw [hR.1, if_neg (nI_ge ck (by omega)), g_inT (by omega) (by omega), show (0 : Int32) = nI 0 from rfl, g_inT (by omega) (by omega), nI_clamp (by omega), nI_clamp (by omega), hq.1 k (by omega), hq.1 0 (by omega), ifE (by omega) (by omega), thn_eq, nI_1]
        by_cases ce : v.1 k = v.1 0
        · rw [if_pos ce] at hb
          rw [lp_s hb]
          refine ih (k + 1) M (by omega) (by omega) (fun j h => ?_) (by omega)
          by_cases e : j = k
          · rw [e, ce]
          · exact hj j (by omega)
        · rw [if_neg ce] at hb
          have : alk v.1 (B 1) = false := by
            cases ca : alk v.1 (B 1) with
            | false => rfl
            | true => exact absurd (of_decide_eq_true (alN_iff.mp ca k ck)) ce
          rw [lp_e hb, this]; rfl
      · have hb : (fun (y : Int32) => X10_allAlike_b2 y q r lg) (nI k) = some (.inr (.inr ())) := by
          dsimp only [X10_allAlike_b2]
          rw [hR.1, if_pos (nI_le (by omega) (by omega))]
        rw [lp_e hb, ob_s, show alk v.1 (B 1) = true from alN_iff.mpr (fun j h => decide_eq_true (hj j (by omega)))]; rfl
  exact key 4 1 FU (Nat.le_refl _) (by omega) (fun j h => by rw [show j = 0 by omega]) (by decide)
theorem r_alike (hB : blk (s.2.2.1 4) 0 B) (hw : wfB B) (hv : vW B v) (hs : vrR v s) (i1 i2 i3 i5 : Int32) : a_loop (fun (y : Bool × Int32) => X12_agreed_b114 i1 i2 i3 i5 y.1 y.2 s) FU (true, (1 : Int32)) = some (alk v.1 (B 1)) := by
  have i4 := hw.2.1
  have p16 : 2 ^ B 0 ≤ 2 ^ 16 := Nat.pow_le_pow_right (by decide) hw.1
  have hv0 := (hv.1 0 (by omega)).1
  have hb1 : s.2.2.1 4 (1 : Int32).toNatClampNeg = nI (B 1) := hB.1 1 (by omega)
  have g1 : ∀ {γ : Type} (e : Option γ), g_in (1 : Int32) 1800 e = e := fun e => g_inT (a := 1) (by omega) (by omega)
  by_cases c0 : B 1 = 0
  · rw [c0, show alk v.1 0 = true from rfl]
    refine lp_e (n := 99999) ?_
    dsimp only [X12_agreed_b114]
    rw [g1, hb1, c0, if_pos (by decide)]
  · have := lp_fi (body := fun (y : Bool × Int32) => X12_agreed_b114 i1 i2 i3 i5 y.1 y.2 s) (fun k => (alk v.1 k, nI k)) (x := alk v.1 (B 1)) 1 (B 1) (by omega) (fun k h1 h2 => ?_) (by omega) ?_
    · rw [alk_1] at this; exact this
    · have hk' := (hv.1 k (by omega)).1
      dsimp only [X12_agreed_b114, X12_agreed_j155, X12_agreed_j154]
      rw [g1, hb1, if_neg (nI_ge h2 (by omega)), g114 (show k < 4 by omega), c114 (by omega), hs.1 k (by omega), show (114 : Int32) = nI 114 from rfl, g_inT (by omega) (by omega), nI_clamp (by omega), show s.2.2.1 4 114 = nI (v.1 0) from hs.1 0 (by omega), ifE (by omega) (by omega), thn_eq, thn_eq, nI_1, show alk v.1 (k + 1) = (alk v.1 k && decide (v.1 k = v.1 0)) from rfl]
      cases alk v.1 k with
      | false => rfl
      | true =>
        by_cases ce : v.1 k = v.1 0
        · rw [if_pos ce, decide_eq_true ce]; rfl
        · rw [if_neg ce, decide_eq_false ce]; rfl
    · dsimp only [X12_agreed_b114]
      rw [g1, hb1, if_pos (nI_le (Nat.le_refl _) (by omega))]
end V
