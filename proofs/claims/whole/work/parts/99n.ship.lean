/-! TEXTS: behind SHIP, both ways -/
section V
variable {s q r lg s0 : RS} {b : Nat → Nat} {e T j f st w a : Nat} {tb : Nat → Int64} {nmI : Nat → Nat} {B : Nat → Nat}
theorem x_readTarget {q1 : RS} {v : Int32} {y : Bool} {q2 : RS} (ha : a < 60) (h1 : pX8_islandHere q r = some (v, q1)) (h2 : pX4_advanceBehind s0 q1 r (uA lg 4 (upd (lg.2.2.1 4) a v)) v = some (y, q2)) : pX4_readTarget s0 q r lg (nI a) = some (y, q2, uA lg 4 (upd (lg.2.2.1 4) a v)) := by
  unfold pX4_readTarget
  rw [h1, ob_s, g_inT ha (by omega), nI_clamp (by omega), thn_eq, g_inT ha (by omega), show (uA lg 4 (upd (lg.2.2.1 4) a v)).2.2.1 4 a = v by rw [uA_at, upd_at], h2, ob_s]
/-- the reference, once it has a fault behind the first ISLAND -/
theorem ship_bad (h : badR f s) (hw1 : 1440 ≤ w) (hw2 : w + 7 ≤ 1800) {R : Option RS} (hR : R = (pX12_readLogName s true).bind fun x5 => g_in (nI w + (2 : Int32)) 1800 (thn (uA x5.2 4 (upd (x5.2.2.2.1 4) (nI w + (2 : Int32)).toNatClampNeg x5.1)) fun s6 => g_in (nI w + (3 : Int32)) 1800 (thn (uA s6 4 (upd (s6.2.2.1 4) (nI w + (3 : Int32)).toNatClampNeg (0 : Int32))) fun s7 => g_in (nI w + (4 : Int32)) 1800 (thn (uA s7 4 (upd (s7.2.2.1 4) (nI w + (4 : Int32)).toNatClampNeg (0 : Int32))) fun s8 => if (s8.1 12) = 0 then (pX12_isLate s8).bind fun x12 => if x12 = true then (pX12_next s8).bind fun x13 => (pX12_count x13 (0 : Int32) (9 : Int32)).bind fun x14 => g_in (nI w + (3 : Int32)) 1800 (thn (uA x14.2 4 (upd (x14.2.2.2.1 4) (nI w + (3 : Int32)).toNatClampNeg x14.1)) fun s15 => X12_readShip_j85 (nI w) s15) else X12_readShip_j85 (nI w) s8 else X12_readShip_j85 (nI w) s8)))) : ∃ s', R = some s' ∧ badR f s' ∧ s'.1 13 = s.1 13 ∧ rsW w s s' := by
  rw [hR, lname_bad h, ob_s, ad2, ad3, ad4]
  simp (disch := omega) only [g_inT, nI_clamp, thn_eq]
  have h8 : badR f (uA (uA (uA s 4 (upd (s.2.2.1 4) (w + 2) (nI 0))) 4 (upd ((uA s 4 (upd (s.2.2.1 4) (w + 2) (nI 0))).2.2.1 4) (w + 3) (0 : Int32))) 4 (upd ((uA (uA s 4 (upd (s.2.2.1 4) (w + 2) (nI 0))) 4 (upd ((uA s 4 (upd (s.2.2.1 4) (w + 2) (nI 0))).2.2.1 4) (w + 3) (0 : Int32))).2.2.1 4) (w + 4) (0 : Int32))) := h
  rw [if_neg (bad_eq h8), j85_bad h8]
  exact ⟨_, rfl, h8, rfl, rsW_tr (rsW_tr (rsW_4 _ _ (by omega)) (rsW_4 _ _ (by omega))) (rsW_4 _ _ (by omega))⟩
end V
