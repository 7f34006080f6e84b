/-! THE LAW'S LOOP -/
theorem and63 (x : Int32) : ∃ j, j < 64 ∧ x &&& 63 = nI j := by
  refine ⟨(x.toBitVec &&& 63#32).toNat, ?_, ?_⟩
  · rw [BitVec.toNat_and]
    exact Nat.lt_of_le_of_lt Nat.and_le_right (by decide)
  · apply Int32.toBitVec_inj.mp
    show x.toBitVec &&& 63#32 = BitVec.ofNat 32 (x.toBitVec &&& 63#32).toNat
    rw [BitVec.ofNat_toNat, BitVec.setWidth_eq]
theorem iv_mono {b0 mo k : Nat} {H : aH} (hI : INV b0 mo k H) : INV b0 mo (k + 1) H := by
  obtain ⟨Ω, c, hO, hh, ⟨v1, v2, ⟨q1, b4, st, q2, q3, q4, q5, q6⟩, v4⟩, hr1, hr2⟩ := hI
  exact ⟨Ω, c, hO, hh, ⟨v1, v2, ⟨q1, b4, st, q2, q3, q4, by omega, q6⟩, v4⟩, by omega, by omega⟩
section L
variable {p : Program} {l : Launch} {e : Env} {s : State} {m : MethodId} {below : List Frame} {meth : Method} {c : Code} {b L : Nat} {xs : Nat → Int32} {D : va_G} {dA : Nat → ClassId} {i : Int32} {h : aH} {k iN : Nat}
theorem l_sw (C : lC p s m meth c b L xs D dA) (hL : L ≤ 3072) (hi : i = nI iN) (hin : iN + 6 ≤ L) (hI : INV 0 138 k h) (hk : k < 512) (nx : ∀ h2, INV 0 138 (k + 1) h2 → lJ p l e s m below meth c b D dA i h2 1673 []) (x : Int32) : lJ p l e s m below meth c b D dA i h 33 [.int (x &&& 63)] := by
  intro H locs ls hl hP hS
  obtain ⟨j, hj, ej⟩ := and63 x
  rw [ej]
  match j, hj with
  | 0, _ => exact lv_tableIn (tgt := 248) C.2.1 C.2.2.1 dL_law_33 (by decide) (by decide) (show _ = some (215 : Int) from rfl) (by decide) (cs0 C hL hi hin hI hk nx H locs ls hl hP hS)
  | 1, _ => exact lv_tableIn (tgt := 261) C.2.1 C.2.2.1 dL_law_33 (by decide) (by decide) (show _ = some (228 : Int) from rfl) (by decide) (cs1 C hL hi hin hI hk nx H locs ls hl hP hS)
  | 2, _ => exact lv_tableIn (tgt := 275) C.2.1 C.2.2.1 dL_law_33 (by decide) (by decide) (show _ = some (242 : Int) from rfl) (by decide) (cs2 C hL hi hin hI hk nx H locs ls hl hP hS)
  | 3, _ => exact lv_tableIn (tgt := 289) C.2.1 C.2.2.1 dL_law_33 (by decide) (by decide) (show _ = some (256 : Int) from rfl) (by decide) (cs3 C hL hi hin hI hk nx H locs ls hl hP hS)
  | 4, _ => exact lv_tableIn (tgt := 332) C.2.1 C.2.2.1 dL_law_33 (by decide) (by decide) (show _ = some (299 : Int) from rfl) (by decide) (cs4 C hL hi hin hI hk nx H locs ls hl hP hS)
  | 5, _ => exact lv_tableIn (tgt := 405) C.2.1 C.2.2.1 dL_law_33 (by decide) (by decide) (show _ = some (372 : Int) from rfl) (by decide) (cs5 C hL hi hin hI hk nx H locs ls hl hP hS)
  | 6, _ => exact lv_tableIn (tgt := 439) C.2.1 C.2.2.1 dL_law_33 (by decide) (by decide) (show _ = some (406 : Int) from rfl) (by decide) (cs6 C hL hi hin hI hk nx H locs ls hl hP hS)
  | 7, _ => exact lv_tableIn (tgt := 502) C.2.1 C.2.2.1 dL_law_33 (by decide) (by decide) (show _ = some (469 : Int) from rfl) (by decide) (cs7 C hL hi hin hI hk nx H locs ls hl hP hS)
  | 8, _ => exact lv_tableIn (tgt := 565) C.2.1 C.2.2.1 dL_law_33 (by decide) (by decide) (show _ = some (532 : Int) from rfl) (by decide) (cs8 C hL hi hin hI hk nx H locs ls hl hP hS)
  | 9, _ => exact lv_tableIn (tgt := 588) C.2.1 C.2.2.1 dL_law_33 (by decide) (by decide) (show _ = some (555 : Int) from rfl) (by decide) (cs9 C hL hi hin hI hk nx H locs ls hl hP hS)
  | 10, _ => exact lv_tableIn (tgt := 611) C.2.1 C.2.2.1 dL_law_33 (by decide) (by decide) (show _ = some (578 : Int) from rfl) (by decide) (cs10 C hL hi hin hI hk nx H locs ls hl hP hS)
  | 11, _ => exact lv_tableIn (tgt := 634) C.2.1 C.2.2.1 dL_law_33 (by decide) (by decide) (show _ = some (601 : Int) from rfl) (by decide) (cs11 C hL hi hin hI hk nx H locs ls hl hP hS)
  | 12, _ => exact lv_tableIn (tgt := 657) C.2.1 C.2.2.1 dL_law_33 (by decide) (by decide) (show _ = some (624 : Int) from rfl) (by decide) (cs12 C hL hi hin hI hk nx H locs ls hl hP hS)
  | 13, _ => exact lv_tableIn (tgt := 690) C.2.1 C.2.2.1 dL_law_33 (by decide) (by decide) (show _ = some (657 : Int) from rfl) (by decide) (cs13 C hL hi hin hI hk nx H locs ls hl hP hS)
  | 14, _ => exact lv_tableIn (tgt := 723) C.2.1 C.2.2.1 dL_law_33 (by decide) (by decide) (show _ = some (690 : Int) from rfl) (by decide) (cs14 C hL hi hin hI hk nx H locs ls hl hP hS)
  | 15, _ => exact lv_tableIn (tgt := 746) C.2.1 C.2.2.1 dL_law_33 (by decide) (by decide) (show _ = some (713 : Int) from rfl) (by decide) (cs15 C hL hi hin hI hk nx H locs ls hl hP hS)
  | 16, _ => exact lv_tableIn (tgt := 769) C.2.1 C.2.2.1 dL_law_33 (by decide) (by decide) (show _ = some (736 : Int) from rfl) (by decide) (cs16 C hL hi hin hI hk nx H locs ls hl hP hS)
  | 17, _ => exact lv_tableIn (tgt := 802) C.2.1 C.2.2.1 dL_law_33 (by decide) (by decide) (show _ = some (769 : Int) from rfl) (by decide) (cs17 C hL hi hin hI hk nx H locs ls hl hP hS)
  | 18, _ => exact lv_tableIn (tgt := 835) C.2.1 C.2.2.1 dL_law_33 (by decide) (by decide) (show _ = some (802 : Int) from rfl) (by decide) (cs18 C hL hi hin hI hk nx H locs ls hl hP hS)
  | 19, _ => exact lv_tableIn (tgt := 848) C.2.1 C.2.2.1 dL_law_33 (by decide) (by decide) (show _ = some (815 : Int) from rfl) (by decide) (cs19 C hL hi hin hI hk nx H locs ls hl hP hS)
  | 20, _ => exact lv_tableIn (tgt := 861) C.2.1 C.2.2.1 dL_law_33 (by decide) (by decide) (show _ = some (828 : Int) from rfl) (by decide) (cs20 C hL hi hin hI hk nx H locs ls hl hP hS)
  | 21, _ => exact lv_tableIn (tgt := 884) C.2.1 C.2.2.1 dL_law_33 (by decide) (by decide) (show _ = some (851 : Int) from rfl) (by decide) (cs21 C hL hi hin hI hk nx H locs ls hl hP hS)
  | 22, _ => exact lv_tableIn (tgt := 917) C.2.1 C.2.2.1 dL_law_33 (by decide) (by decide) (show _ = some (884 : Int) from rfl) (by decide) (cs22 C hL hi hin hI hk nx H locs ls hl hP hS)
  | 23, _ => exact lv_tableIn (tgt := 950) C.2.1 C.2.2.1 dL_law_33 (by decide) (by decide) (show _ = some (917 : Int) from rfl) (by decide) (cs23 C hL hi hin hI hk nx H locs ls hl hP hS)
  | 24, _ => exact lv_tableIn (tgt := 983) C.2.1 C.2.2.1 dL_law_33 (by decide) (by decide) (show _ = some (950 : Int) from rfl) (by decide) (cs24 C hL hi hin hI hk nx H locs ls hl hP hS)
  | 25, _ => exact lv_tableIn (tgt := 1016) C.2.1 C.2.2.1 dL_law_33 (by decide) (by decide) (show _ = some (983 : Int) from rfl) (by decide) (cs25 C hL hi hin hI hk nx H locs ls hl hP hS)
  | 26, _ => exact lv_tableIn (tgt := 1049) C.2.1 C.2.2.1 dL_law_33 (by decide) (by decide) (show _ = some (1016 : Int) from rfl) (by decide) (cs26 C hL hi hin hI hk nx H locs ls hl hP hS)
  | 27, _ => exact lv_tableIn (tgt := 1082) C.2.1 C.2.2.1 dL_law_33 (by decide) (by decide) (show _ = some (1049 : Int) from rfl) (by decide) (cs27 C hL hi hin hI hk nx H locs ls hl hP hS)
  | 28, _ => exact lv_tableIn (tgt := 1105) C.2.1 C.2.2.1 dL_law_33 (by decide) (by decide) (show _ = some (1072 : Int) from rfl) (by decide) (cs28 C hL hi hin hI hk nx H locs ls hl hP hS)
  | 29, _ => exact lv_tableIn (tgt := 1138) C.2.1 C.2.2.1 dL_law_33 (by decide) (by decide) (show _ = some (1105 : Int) from rfl) (by decide) (cs29 C hL hi hin hI hk nx H locs ls hl hP hS)
  | 30, _ => exact lv_tableIn (tgt := 1161) C.2.1 C.2.2.1 dL_law_33 (by decide) (by decide) (show _ = some (1128 : Int) from rfl) (by decide) (cs30 C hL hi hin hI hk nx H locs ls hl hP hS)
  | 31, _ => exact lv_tableIn (tgt := 1174) C.2.1 C.2.2.1 dL_law_33 (by decide) (by decide) (show _ = some (1141 : Int) from rfl) (by decide) (cs31 C hL hi hin hI hk nx H locs ls hl hP hS)
  | 32, _ => exact lv_tableIn (tgt := 1198) C.2.1 C.2.2.1 dL_law_33 (by decide) (by decide) (show _ = some (1165 : Int) from rfl) (by decide) (cs32 C hL hi hin hI hk nx H locs ls hl hP hS)
  | 33, _ => exact lv_tableIn (tgt := 1241) C.2.1 C.2.2.1 dL_law_33 (by decide) (by decide) (show _ = some (1208 : Int) from rfl) (by decide) (cs33 C hL hi hin hI hk nx H locs ls hl hP hS)
  | 34, _ => exact lv_tableIn (tgt := 1304) C.2.1 C.2.2.1 dL_law_33 (by decide) (by decide) (show _ = some (1271 : Int) from rfl) (by decide) (cs34 C hL hi hin hI hk nx H locs ls hl hP hS)
  | 35, _ => exact lv_tableIn (tgt := 1337) C.2.1 C.2.2.1 dL_law_33 (by decide) (by decide) (show _ = some (1304 : Int) from rfl) (by decide) (cs35 C hL hi hin hI hk nx H locs ls hl hP hS)
  | 36, _ => exact lv_tableIn (tgt := 1351) C.2.1 C.2.2.1 dL_law_33 (by decide) (by decide) (show _ = some (1318 : Int) from rfl) (by decide) (cs36 C hL hi hin hI hk nx H locs ls hl hP hS)
  | 37, _ => exact lv_tableIn (tgt := 1374) C.2.1 C.2.2.1 dL_law_33 (by decide) (by decide) (show _ = some (1341 : Int) from rfl) (by decide) (cs37 C hL hi hin hI hk nx H locs ls hl hP hS)
  | 38, _ => exact lv_tableIn (tgt := 1397) C.2.1 C.2.2.1 dL_law_33 (by decide) (by decide) (show _ = some (1364 : Int) from rfl) (by decide) (cs38 C hL hi hin hI hk nx H locs ls hl hP hS)
  | 39, _ => exact lv_tableIn (tgt := 1420) C.2.1 C.2.2.1 dL_law_33 (by decide) (by decide) (show _ = some (1387 : Int) from rfl) (by decide) (cs39 C hL hi hin hI hk nx H locs ls hl hP hS)
  | 40, _ => exact lv_tableIn (tgt := 1443) C.2.1 C.2.2.1 dL_law_33 (by decide) (by decide) (show _ = some (1410 : Int) from rfl) (by decide) (cs40 C hL hi hin hI hk nx H locs ls hl hP hS)
  | 41, _ => exact lv_tableIn (tgt := 1456) C.2.1 C.2.2.1 dL_law_33 (by decide) (by decide) (show _ = some (1423 : Int) from rfl) (by decide) (cs41 C hL hi hin hI hk nx H locs ls hl hP hS)
  | 42, _ => exact lv_tableIn (tgt := 1479) C.2.1 C.2.2.1 dL_law_33 (by decide) (by decide) (show _ = some (1446 : Int) from rfl) (by decide) (cs42 C hL hi hin hI hk nx H locs ls hl hP hS)
  | 43, _ => exact lv_tableIn (tgt := 1512) C.2.1 C.2.2.1 dL_law_33 (by decide) (by decide) (show _ = some (1479 : Int) from rfl) (by decide) (cs43 C hL hi hin hI hk nx H locs ls hl hP hS)
  | 44, _ => exact lv_tableIn (tgt := 1535) C.2.1 C.2.2.1 dL_law_33 (by decide) (by decide) (show _ = some (1502 : Int) from rfl) (by decide) (cs44 C hL hi hin hI hk nx H locs ls hl hP hS)
  | 45, _ => exact lv_tableIn (tgt := 1558) C.2.1 C.2.2.1 dL_law_33 (by decide) (by decide) (show _ = some (1525 : Int) from rfl) (by decide) (cs45 C hL hi hin hI hk nx H locs ls hl hP hS)
  | 46, _ => exact lv_tableIn (tgt := 1591) C.2.1 C.2.2.1 dL_law_33 (by decide) (by decide) (show _ = some (1558 : Int) from rfl) (by decide) (cs46 C hL hi hin hI hk nx H locs ls hl hP hS)
  | 47, _ => exact lv_tableIn (tgt := 1624) C.2.1 C.2.2.1 dL_law_33 (by decide) (by decide) (show _ = some (1591 : Int) from rfl) (by decide) (cs47 C hL hi hin hI hk nx H locs ls hl hP hS)
  | 48, _ => exact lv_tableIn (tgt := 1647) C.2.1 C.2.2.1 dL_law_33 (by decide) (by decide) (show _ = some (1614 : Int) from rfl) (by decide) (cs48 C hL hi hin hI hk nx H locs ls hl hP hS)
  | 49, _ => exact lv_tableIn (tgt := 1660) C.2.1 C.2.2.1 dL_law_33 (by decide) (by decide) (show _ = some (1627 : Int) from rfl) (by decide) (cs49 C hL hi hin hI hk nx H locs ls hl hP hS)
  | j + 50, hj =>
    refine lv_tableOut (tgt := 1673) C.2.1 C.2.2.1 dL_law_33 (Or.inr ?_) (by decide) (nx h (iv_mono hI) H locs ls hl hP hS)
    rw [nI_toInt (by omega)]
    omega
theorem l_loop (C : lC p s m meth c b L xs D dA) (hL : L ≤ 3072) : ∀ (n k : Nat) (h : aH), 6 * k ≤ L → L + 6 ≤ 6 * k + 6 * n → INV 0 138 k h → lJ p l e s m below meth c b D dA (nI (6 * k)) h 18 [] := by
  intro n
  induction n with
  | zero => intro k h h1 h2; omega
  | succ n ih =>
    intro k h hk hn hI H locs ls hl hP hS
    obtain ⟨hR1, hR2⟩ := iv_rm hI (by omega)
    refine lv_iload_n C.2.1 C.2.2.1 dL_law_18 rfl (lv_at hl 0 rfl) (lv_aload_n C.2.1 C.2.2.1 dL_law_19 rfl (lv_at hl 1 rfl) (va_slen C.2.1 C.2.2.1 C.1.2.2.2.2.2.2.1 C.1.2.2.2.2.2.2.2.1 (Nat.not_le.mpr C.1.2.2.2.2.2.2.2.1) hS dL_law_20 (lv_bipush (v := 6) C.2.1 C.2.2.1 dL_law_21 (by decide) (lv_isub C.2.1 C.2.2.1 dL_law_23 (lv_icmp_gt (tgt := 1679) C.2.1 C.2.2.1 dL_law_24 (by decide) (fun _ => ?_) (fun cn => ?_))))))
    · refine lv_iconst (v := 1) C.2.1 C.2.2.1 dL_law_1679 (by decide) ?_
      refine va_forget (fun q hq => hS.2.2 q hq) ?_
      refine W.widen (k := 600000) (n := 7302250) hR1 hR2 ?_
      exact lw_ret C.1.1 C.1.2.1 C.1.2.2.1 C.1.2.2.2.2.2.2.2.2.1 dL_law_1680
    · have hin : 6 * k + 6 ≤ L := by
        have cn' : ¬ nI L - 6 < nI (6 * k) := cn
        by_cases h6 : 6 ≤ L
        · have e1 : nI L - 6 = nI (L - 6) := by
            have : nI (L - 6) + nI 6 = nI L := by rw [nI_add, Nat.sub_add_cancel h6]
            rw [← this]
            exact Int32.add_sub_cancel _ _
          rw [e1, nI_ltI (by omega) (by omega)] at cn'
          omega
        · exfalso
          apply cn'
          have q : ∀ L, L < 6 → (nI L - 6).toInt < 0 := by decide
          rw [Int32.lt_iff_toInt_lt, nI_toInt (by omega)]
          have := q L (by omega)
          omega
      refine lv_aload_n C.2.1 C.2.2.1 dL_law_27 rfl (lv_at hl 1 rfl) (lv_iload_n C.2.1 C.2.2.1 dL_law_28 rfl (lv_at hl 0 rfl) (va_sld C.2.1 C.2.2.1 C.1.2.2.2.2.2.2.1 C.1.2.2.2.2.2.2.2.1 (Nat.not_le.mpr C.1.2.2.2.2.2.2.2.1) hS (vp_in_nI (by omega) (by omega)) dL_law_29 (lv_bipush (v := 63) C.2.1 C.2.2.1 dL_law_30 (by decide) (lv_iand C.2.1 C.2.2.1 dL_law_32 ?_))))
      refine l_sw C hL rfl hin hI (by omega) (fun h2 hI2 => ?_) _ H locs ls hl hP hS
      intro H2 locs2 ls2 hl2 hP2 hS2
      refine lv_iinc (v := nI (6 * (k + 1))) (lv' := [(3, .int (nI (6 * (k + 1)))), (0, .ref b), (1, .ref s.heap.size), (2, .ref (s.heap.size + 138))]) C.2.1 C.2.2.1 dL_law_1673 hl2 (k := 0) rfl (nI_add (6 * k) 6) (by decide) rfl (fun ls3 hl3 => ?_)
      exact lv_goto (tgt := 18) C.2.1 C.2.2.1 dL_law_1676 (by decide) (ih (k + 1) h2 (by omega) (by omega) hI2 H2 locs2 ls3 hl3 hP2 hS2)
end L
