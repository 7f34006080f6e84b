section
variable {l : Launch} {n0 S0 : Nat} {mo : Nat} {h : aH}
abbrev MX12_isKept : aM := (cX12_isKept, RX12, 1, (some .boolean), false)
def pX12_isKept (s : RS) : Option Bool :=
  (pX12_isIslandWord s).bind fun x1 =>
  if x1 = true then
    some true
  else
    (pX12_kindWord s).bind fun x2 =>
    if 0 ≤ x2 then
      some true
    else
      (pX12_isKey s).bind fun x3 =>
      if x3 = true then
        some true
      else
        (pX12_isSays s).bind fun x4 =>
        if x4 = true then
          some true
        else
          (pX12_isOf s).bind fun x5 =>
          if x5 = true then
            some true
          else
            (pX12_isNot s).bind fun x6 =>
            if x6 = true then
              some true
            else
              (pX12_isAfter s).bind fun x7 =>
              if x7 = true then
                some true
              else
                (pX12_stepWord s).bind fun x8 =>
                if x8 < 0 then
                  (pX12_isAt s).bind fun x9 =>
                  if x9 = true then
                    some true
                  else
                    (pX12_isTo s).bind fun x10 =>
                    if x10 = true then
                      some true
                    else
                      (pX12_isLate s).bind fun x11 =>
                      if x11 = true then
                        some true
                      else
                        (pX12_isTwice s).bind fun x12 =>
                        if x12 = true then
                          some true
                        else
                          (pX12_isHas s).bind fun x13 =>
                          if x13 = true then
                            some true
                          else
                            (pX12_isQuietWord s).bind fun x14 =>
                            if x14 = true then
                              some true
                            else
                              (pX12_isDayWord s).bind fun x15 =>
                              if x15 = true then
                                some true
                              else
                                (pX12_isEnd s).bind fun x16 =>
                                if x16 = true then
                                  some true
                                else
                                  some false
                else
                  some true
theorem pX12_isKept_w (hh : mo + 18 ≤ h.2.1) (s : RS) : aS l 2 MX12_isKept n0 S0 (oΦ (fun (x : Bool) => (some (.int (b2i x)), rH mo h s))) 0 [(0, .ref mo)] [] (rH mo h s) (pX12_isKept s) := by
  unfold pX12_isKept
  refine s_aload_n (pc := 0) 0 dX12_isKept_0 rfl ?_
  refine s_callV (M := MX12_isKept) (As := []) (st := []) (Ψ := fun (x : Bool) => (some (.int (b2i x)), rH mo h s)) cv_X12_156 (by decide) (pc := 1) dX12_isKept_1 r_0 (r_lt (k := 0) hh (by decide)) rfl (Nat.le_of_ble_eq_true rfl) (fun x hx => pX12_isIslandWord_ok hh s x hx) rfl (fun x1 _ => ?_)
  refine s_if_neB (tgt := 56) (pc := 4) dX12_isKept_4 (by decide) (fun _ => ?_) (fun _ => ?_)
  · refine s_iconst (v := 1) (pc := 56) dX12_isKept_56 (by decide) ?_
    exact s_zretB (b := true) (pc := 57) dX12_isKept_57 rfl (fun _ _ q => q)
  · refine s_aload_n (pc := 7) 0 dX12_isKept_7 rfl ?_
    refine s_callV (M := MX12_isKept) (As := []) (st := []) (Ψ := fun (x : Int32) => (some (.int x), rH mo h s)) cv_X12_160 (by decide) (pc := 8) dX12_isKept_8 r_0 (r_lt (k := 0) hh (by decide)) rfl (Nat.le_of_ble_eq_true rfl) (fun x hx => pX12_kindWord_ok hh s x hx) rfl (fun x2 _ => ?_)
    refine s_if_ge (tgt := 56) (pc := 11) dX12_isKept_11 (by decide) (fun _ => ?_) (fun _ => ?_)
    · refine s_iconst (v := 1) (pc := 56) dX12_isKept_56 (by decide) ?_
      exact s_zretB (b := true) (pc := 57) dX12_isKept_57 rfl (fun _ _ q => q)
    · refine s_aload_n (pc := 14) 0 dX12_isKept_14 rfl ?_
      refine s_callV (M := MX12_isKept) (As := []) (st := []) (Ψ := fun (x : Bool) => (some (.int (b2i x)), rH mo h s)) cv_X12_164 (by decide) (pc := 15) dX12_isKept_15 r_0 (r_lt (k := 0) hh (by decide)) rfl (Nat.le_of_ble_eq_true rfl) (fun x hx => pX12_isKey_ok hh s x hx) rfl (fun x3 _ => ?_)
      refine s_if_neB (tgt := 56) (pc := 18) dX12_isKept_18 (by decide) (fun _ => ?_) (fun _ => ?_)
      · refine s_iconst (v := 1) (pc := 56) dX12_isKept_56 (by decide) ?_
        exact s_zretB (b := true) (pc := 57) dX12_isKept_57 rfl (fun _ _ q => q)
      · refine s_aload_n (pc := 21) 0 dX12_isKept_21 rfl ?_
        refine s_callV (M := MX12_isKept) (As := []) (st := []) (Ψ := fun (x : Bool) => (some (.int (b2i x)), rH mo h s)) cv_X12_167 (by decide) (pc := 22) dX12_isKept_22 r_0 (r_lt (k := 0) hh (by decide)) rfl (Nat.le_of_ble_eq_true rfl) (fun x hx => pX12_isSays_ok hh s x hx) rfl (fun x4 _ => ?_)
        refine s_if_neB (tgt := 56) (pc := 25) dX12_isKept_25 (by decide) (fun _ => ?_) (fun _ => ?_)
        · refine s_iconst (v := 1) (pc := 56) dX12_isKept_56 (by decide) ?_
          exact s_zretB (b := true) (pc := 57) dX12_isKept_57 rfl (fun _ _ q => q)
        · refine s_aload_n (pc := 28) 0 dX12_isKept_28 rfl ?_
          refine s_callV (M := MX12_isKept) (As := []) (st := []) (Ψ := fun (x : Bool) => (some (.int (b2i x)), rH mo h s)) cv_X12_170 (by decide) (pc := 29) dX12_isKept_29 r_0 (r_lt (k := 0) hh (by decide)) rfl (Nat.le_of_ble_eq_true rfl) (fun x hx => pX12_isOf_ok hh s x hx) rfl (fun x5 _ => ?_)
          refine s_if_neB (tgt := 56) (pc := 32) dX12_isKept_32 (by decide) (fun _ => ?_) (fun _ => ?_)
          · refine s_iconst (v := 1) (pc := 56) dX12_isKept_56 (by decide) ?_
            exact s_zretB (b := true) (pc := 57) dX12_isKept_57 rfl (fun _ _ q => q)
          · refine s_aload_n (pc := 35) 0 dX12_isKept_35 rfl ?_
            refine s_callV (M := MX12_isKept) (As := []) (st := []) (Ψ := fun (x : Bool) => (some (.int (b2i x)), rH mo h s)) cv_X12_173 (by decide) (pc := 36) dX12_isKept_36 r_0 (r_lt (k := 0) hh (by decide)) rfl (Nat.le_of_ble_eq_true rfl) (fun x hx => pX12_isNot_ok hh s x hx) rfl (fun x6 _ => ?_)
            refine s_if_neB (tgt := 56) (pc := 39) dX12_isKept_39 (by decide) (fun _ => ?_) (fun _ => ?_)
            · refine s_iconst (v := 1) (pc := 56) dX12_isKept_56 (by decide) ?_
              exact s_zretB (b := true) (pc := 57) dX12_isKept_57 rfl (fun _ _ q => q)
            · refine s_aload_n (pc := 42) 0 dX12_isKept_42 rfl ?_
              refine s_callV (M := MX12_isKept) (As := []) (st := []) (Ψ := fun (x : Bool) => (some (.int (b2i x)), rH mo h s)) cv_X12_176 (by decide) (pc := 43) dX12_isKept_43 r_0 (r_lt (k := 0) hh (by decide)) rfl (Nat.le_of_ble_eq_true rfl) (fun x hx => pX12_isAfter_ok hh s x hx) rfl (fun x7 _ => ?_)
              refine s_if_neB (tgt := 56) (pc := 46) dX12_isKept_46 (by decide) (fun _ => ?_) (fun _ => ?_)
              · refine s_iconst (v := 1) (pc := 56) dX12_isKept_56 (by decide) ?_
                exact s_zretB (b := true) (pc := 57) dX12_isKept_57 rfl (fun _ _ q => q)
              · refine s_aload_n (pc := 49) 0 dX12_isKept_49 rfl ?_
                refine s_callV (M := MX12_isKept) (As := []) (st := []) (Ψ := fun (x : Int32) => (some (.int x), rH mo h s)) cv_X12_179 (by decide) (pc := 50) dX12_isKept_50 r_0 (r_lt (k := 0) hh (by decide)) rfl (Nat.le_of_ble_eq_true rfl) (fun x hx => pX12_stepWord_ok hh s x hx) rfl (fun x8 _ => ?_)
                refine s_if_lt (tgt := 58) (pc := 53) dX12_isKept_53 (by decide) (fun _ => ?_) (fun _ => ?_)
                · refine s_aload_n (pc := 58) 0 dX12_isKept_58 rfl ?_
                  refine s_callV (M := MX12_isKept) (As := []) (st := []) (Ψ := fun (x : Bool) => (some (.int (b2i x)), rH mo h s)) cv_X12_182 (by decide) (pc := 59) dX12_isKept_59 r_0 (r_lt (k := 0) hh (by decide)) rfl (Nat.le_of_ble_eq_true rfl) (fun x hx => pX12_isAt_ok hh s x hx) rfl (fun x9 _ => ?_)
                  refine s_if_neB (tgt := 114) (pc := 62) dX12_isKept_62 (by decide) (fun _ => ?_) (fun _ => ?_)
                  · refine s_iconst (v := 1) (pc := 114) dX12_isKept_114 (by decide) ?_
                    refine s_goto (tgt := 119) (pc := 115) dX12_isKept_115 (by decide) ?_
                    exact s_zretB (b := true) (pc := 119) dX12_isKept_119 rfl (fun _ _ q => q)
                  · refine s_aload_n (pc := 65) 0 dX12_isKept_65 rfl ?_
                    refine s_callV (M := MX12_isKept) (As := []) (st := []) (Ψ := fun (x : Bool) => (some (.int (b2i x)), rH mo h s)) cv_X12_185 (by decide) (pc := 66) dX12_isKept_66 r_0 (r_lt (k := 0) hh (by decide)) rfl (Nat.le_of_ble_eq_true rfl) (fun x hx => pX12_isTo_ok hh s x hx) rfl (fun x10 _ => ?_)
                    refine s_if_neB (tgt := 114) (pc := 69) dX12_isKept_69 (by decide) (fun _ => ?_) (fun _ => ?_)
                    · refine s_iconst (v := 1) (pc := 114) dX12_isKept_114 (by decide) ?_
                      refine s_goto (tgt := 119) (pc := 115) dX12_isKept_115 (by decide) ?_
                      exact s_zretB (b := true) (pc := 119) dX12_isKept_119 rfl (fun _ _ q => q)
                    · refine s_aload_n (pc := 72) 0 dX12_isKept_72 rfl ?_
                      refine s_callV (M := MX12_isKept) (As := []) (st := []) (Ψ := fun (x : Bool) => (some (.int (b2i x)), rH mo h s)) cv_X12_188 (by decide) (pc := 73) dX12_isKept_73 r_0 (r_lt (k := 0) hh (by decide)) rfl (Nat.le_of_ble_eq_true rfl) (fun x hx => pX12_isLate_ok hh s x hx) rfl (fun x11 _ => ?_)
                      refine s_if_neB (tgt := 114) (pc := 76) dX12_isKept_76 (by decide) (fun _ => ?_) (fun _ => ?_)
                      · refine s_iconst (v := 1) (pc := 114) dX12_isKept_114 (by decide) ?_
                        refine s_goto (tgt := 119) (pc := 115) dX12_isKept_115 (by decide) ?_
                        exact s_zretB (b := true) (pc := 119) dX12_isKept_119 rfl (fun _ _ q => q)
                      · refine s_aload_n (pc := 79) 0 dX12_isKept_79 rfl ?_
                        refine s_callV (M := MX12_isKept) (As := []) (st := []) (Ψ := fun (x : Bool) => (some (.int (b2i x)), rH mo h s)) cv_X12_191 (by decide) (pc := 80) dX12_isKept_80 r_0 (r_lt (k := 0) hh (by decide)) rfl (Nat.le_of_ble_eq_true rfl) (fun x hx => pX12_isTwice_ok hh s x hx) rfl (fun x12 _ => ?_)
                        refine s_if_neB (tgt := 114) (pc := 83) dX12_isKept_83 (by decide) (fun _ => ?_) (fun _ => ?_)
                        · refine s_iconst (v := 1) (pc := 114) dX12_isKept_114 (by decide) ?_
                          refine s_goto (tgt := 119) (pc := 115) dX12_isKept_115 (by decide) ?_
                          exact s_zretB (b := true) (pc := 119) dX12_isKept_119 rfl (fun _ _ q => q)
                        · refine s_aload_n (pc := 86) 0 dX12_isKept_86 rfl ?_
                          refine s_callV (M := MX12_isKept) (As := []) (st := []) (Ψ := fun (x : Bool) => (some (.int (b2i x)), rH mo h s)) cv_X12_194 (by decide) (pc := 87) dX12_isKept_87 r_0 (r_lt (k := 0) hh (by decide)) rfl (Nat.le_of_ble_eq_true rfl) (fun x hx => pX12_isHas_ok hh s x hx) rfl (fun x13 _ => ?_)
                          refine s_if_neB (tgt := 114) (pc := 90) dX12_isKept_90 (by decide) (fun _ => ?_) (fun _ => ?_)
                          · refine s_iconst (v := 1) (pc := 114) dX12_isKept_114 (by decide) ?_
                            refine s_goto (tgt := 119) (pc := 115) dX12_isKept_115 (by decide) ?_
                            exact s_zretB (b := true) (pc := 119) dX12_isKept_119 rfl (fun _ _ q => q)
                          · refine s_aload_n (pc := 93) 0 dX12_isKept_93 rfl ?_
                            refine s_callV (M := MX12_isKept) (As := []) (st := []) (Ψ := fun (x : Bool) => (some (.int (b2i x)), rH mo h s)) cv_X12_197 (by decide) (pc := 94) dX12_isKept_94 r_0 (r_lt (k := 0) hh (by decide)) rfl (Nat.le_of_ble_eq_true rfl) (fun x hx => pX12_isQuietWord_ok hh s x hx) rfl (fun x14 _ => ?_)
                            refine s_if_neB (tgt := 114) (pc := 97) dX12_isKept_97 (by decide) (fun _ => ?_) (fun _ => ?_)
                            · refine s_iconst (v := 1) (pc := 114) dX12_isKept_114 (by decide) ?_
                              refine s_goto (tgt := 119) (pc := 115) dX12_isKept_115 (by decide) ?_
                              exact s_zretB (b := true) (pc := 119) dX12_isKept_119 rfl (fun _ _ q => q)
                            · refine s_aload_n (pc := 100) 0 dX12_isKept_100 rfl ?_
                              refine s_callV (M := MX12_isKept) (As := []) (st := []) (Ψ := fun (x : Bool) => (some (.int (b2i x)), rH mo h s)) cv_X12_200 (by decide) (pc := 101) dX12_isKept_101 r_0 (r_lt (k := 0) hh (by decide)) rfl (Nat.le_of_ble_eq_true rfl) (fun x hx => pX12_isDayWord_ok hh s x hx) rfl (fun x15 _ => ?_)
                              refine s_if_neB (tgt := 114) (pc := 104) dX12_isKept_104 (by decide) (fun _ => ?_) (fun _ => ?_)
                              · refine s_iconst (v := 1) (pc := 114) dX12_isKept_114 (by decide) ?_
                                refine s_goto (tgt := 119) (pc := 115) dX12_isKept_115 (by decide) ?_
                                exact s_zretB (b := true) (pc := 119) dX12_isKept_119 rfl (fun _ _ q => q)
                              · refine s_aload_n (pc := 107) 0 dX12_isKept_107 rfl ?_
                                refine s_callV (M := MX12_isKept) (As := []) (st := []) (Ψ := fun (x : Bool) => (some (.int (b2i x)), rH mo h s)) cv_X12_203 (by decide) (pc := 108) dX12_isKept_108 r_0 (r_lt (k := 0) hh (by decide)) rfl (Nat.le_of_ble_eq_true rfl) (fun x hx => pX12_isEnd_ok hh s x hx) rfl (fun x16 _ => ?_)
                                refine s_if_eqB (tgt := 118) (pc := 111) dX12_isKept_111 (by decide) (fun _ => ?_) (fun _ => ?_)
                                · refine s_iconst (v := 1) (pc := 114) dX12_isKept_114 (by decide) ?_
                                  refine s_goto (tgt := 119) (pc := 115) dX12_isKept_115 (by decide) ?_
                                  exact s_zretB (b := true) (pc := 119) dX12_isKept_119 rfl (fun _ _ q => q)
                                · refine s_iconst (v := 0) (pc := 118) dX12_isKept_118 (by decide) ?_
                                  exact s_zretB (b := false) (pc := 119) dX12_isKept_119 rfl (fun _ _ q => q)
                · refine s_iconst (v := 1) (pc := 56) dX12_isKept_56 (by decide) ?_
                  exact s_zretB (b := true) (pc := 57) dX12_isKept_57 rfl (fun _ _ q => q)
theorem pX12_isKept_ok (hh : mo + 18 ≤ h.2.1) (s : RS) : ∀ x, pX12_isKept s = some x → aMet l 2 yX12_isKept cX12_isKept 1 (some .boolean) [.ref mo] (rH mo h s) (some (.int (b2i x))) (rH mo h s) := fun x hx => a_meth (ini := false) (y := yX12_isKept) (by decide +kernel) (fun q => by cases q) (fun _ => Nat.le_of_ble_eq_true rfl) (pX12_isKept_w hh s) x hx _ _ ⟨rfl, rfl⟩
end
section
variable {l : Launch} {n0 S0 : Nat} {mo : Nat} {h : aH}
abbrev MX12_isName : aM := (cX12_isName, RX12, 1, (some .boolean), false)
def pX12_isName (s : RS) : Option Bool :=
  if (s.1 14) = (1 : Int32) then
    if (8 : Int32) < (s.1 18) then
      some false
    else
      (pX12_isKept s).bind fun x1 =>
      if x1 = true then
        some false
      else
        some true
  else
    some false
theorem pX12_isName_w (hh : mo + 18 ≤ h.2.1) (s : RS) : aS l 3 MX12_isName n0 S0 (oΦ (fun (x : Bool) => (some (.int (b2i x)), rH mo h s))) 0 [(0, .ref mo)] [] (rH mo h s) (pX12_isName s) := by
  unfold pX12_isName
  refine s_aload_n (pc := 0) 0 dX12_isName_0 rfl ?_
  refine rg_126 hh (pc := 1) dX12_isName_1 rfl ?_
  refine s_iconst (v := 1) (pc := 4) dX12_isName_4 (by decide) ?_
  refine s_icmp_ne (tgt := 28) (pc := 5) dX12_isName_5 (by decide) (fun _ => ?_) (fun _ => ?_)
  · refine s_aload_n (pc := 8) 0 dX12_isName_8 rfl ?_
    refine rg_139 hh (pc := 9) dX12_isName_9 rfl ?_
    refine s_bipush (v := 8) (pc := 12) dX12_isName_12 (by decide) ?_
    refine s_icmp_gt (tgt := 28) (pc := 14) dX12_isName_14 (by decide) (fun _ => ?_) (fun _ => ?_)
    · refine s_iconst (v := 0) (pc := 28) dX12_isName_28 (by decide) ?_
      exact s_zretB (b := false) (pc := 29) dX12_isName_29 rfl (fun _ _ q => q)
    · refine s_aload_n (pc := 17) 0 dX12_isName_17 rfl ?_
      refine s_callV (M := MX12_isName) (As := []) (st := []) (Ψ := fun (x : Bool) => (some (.int (b2i x)), rH mo h s)) cv_X12_206 (by decide) (pc := 18) dX12_isName_18 r_0 (r_lt (k := 0) hh (by decide)) rfl (Nat.le_of_ble_eq_true rfl) (fun x hx => pX12_isKept_ok hh s x hx) rfl (fun x1 _ => ?_)
      refine s_if_neB (tgt := 28) (pc := 21) dX12_isName_21 (by decide) (fun _ => ?_) (fun _ => ?_)
      · refine s_iconst (v := 0) (pc := 28) dX12_isName_28 (by decide) ?_
        exact s_zretB (b := false) (pc := 29) dX12_isName_29 rfl (fun _ _ q => q)
      · refine s_iconst (v := 1) (pc := 24) dX12_isName_24 (by decide) ?_
        refine s_goto (tgt := 29) (pc := 25) dX12_isName_25 (by decide) ?_
        exact s_zretB (b := true) (pc := 29) dX12_isName_29 rfl (fun _ _ q => q)
  · refine s_iconst (v := 0) (pc := 28) dX12_isName_28 (by decide) ?_
    exact s_zretB (b := false) (pc := 29) dX12_isName_29 rfl (fun _ _ q => q)
theorem pX12_isName_ok (hh : mo + 18 ≤ h.2.1) (s : RS) : ∀ x, pX12_isName s = some x → aMet l 3 yX12_isName cX12_isName 1 (some .boolean) [.ref mo] (rH mo h s) (some (.int (b2i x))) (rH mo h s) := fun x hx => a_meth (ini := false) (y := yX12_isName) (by decide +kernel) (fun q => by cases q) (fun _ => Nat.le_of_ble_eq_true rfl) (pX12_isName_w hh s) x hx _ _ ⟨rfl, rfl⟩
end
section
variable {l : Launch} {n0 S0 : Nat} {mo : Nat} {h : aH}
abbrev MX12_fail : aM := (cX12_fail, RX12, 3, none, false)
def pX12_fail (s : RS) (a0 : Int32) (a1 : Int32) : Option RS :=
  if (s.1 12) ≤ 0 then
    thn (uI s 12 a0) fun s1 =>
    thn (uI s1 13 a1) fun s2 =>
    some s2
  else
    some s
theorem pX12_fail_w (hh : mo + 18 ≤ h.2.1) (s : RS) (a0 : Int32) (a1 : Int32) : aS l 0 MX12_fail n0 S0 (oΦ (fun (x : RS) => (none, rH mo h x))) 0 [(0, .ref mo), (1, .int a0), (2, .int a1)] [] (rH mo h s) (pX12_fail s a0 a1) := by
  unfold pX12_fail
  refine s_aload_n (pc := 0) 0 dX12_fail_0 rfl ?_
  refine rg_209 hh (pc := 1) dX12_fail_1 rfl ?_
  refine s_if_le (tgt := 8) (pc := 4) dX12_fail_4 (by decide) (fun _ => ?_) (fun _ => ?_)
  · refine s_aload_n (pc := 8) 0 dX12_fail_8 rfl ?_
    refine s_iload_n (pc := 9) 1 dX12_fail_9 rfl ?_
    refine rp_209 hh (pc := 10) dX12_fail_10 rfl (fun s1 => ?_)
    refine s_aload_n (pc := 13) 0 dX12_fail_13 rfl ?_
    refine s_iload_n (pc := 14) 2 dX12_fail_14 rfl ?_
    refine rp_212 hh (pc := 15) dX12_fail_15 rfl (fun s2 => ?_)
    exact s_vret (pc := 18) dX12_fail_18 rfl (fun _ _ q => q)
  · exact s_vret (pc := 7) dX12_fail_7 rfl (fun _ _ q => q)
theorem pX12_fail_ok (hh : mo + 18 ≤ h.2.1) (s : RS) (a0 : Int32) (a1 : Int32) : ∀ x, pX12_fail s a0 a1 = some x → aMet l 0 yX12_fail cX12_fail 3 none [.ref mo, .int a0, .int a1] (rH mo h s) none (rH mo h x) := fun x hx => a_meth (ini := false) (y := yX12_fail) (by decide +kernel) (fun q => by cases q) (fun _ => Nat.le_of_ble_eq_true rfl) (pX12_fail_w hh s a0 a1) x hx _ _ ⟨rfl, rfl⟩
end
section
variable {l : Launch} {n0 S0 : Nat} {mo : Nat} {h : aH}
abbrev MX12_wrong : aM := (cX12_wrong, RX12, 1, none, false)
def X12_wrong_j14 (k1 : Int32) (s : RS) : Option RS :=
  (pX12_fail s k1 (s.1 15)).bind fun x1 =>
  some x1
theorem X12_wrong_j14_ok (hh : mo + 18 ≤ h.2.1) (k1 : Int32) (s : RS) : aS l 1 MX12_wrong n0 S0 (oΦ (fun (x : RS) => (none, rH mo h x))) 14 [(0, .ref mo)] [.int k1, .ref mo] (rH mo h s) (X12_wrong_j14 k1 s) := by
  unfold X12_wrong_j14
  refine s_aload_n (pc := 14) 0 dX12_wrong_14 rfl ?_
  refine rg_120 hh (pc := 15) dX12_wrong_15 rfl ?_
  refine s_callV (M := MX12_wrong) (As := [.int k1, .int (s.1 15)]) (st := []) (Ψ := fun (x : RS) => (none, rH mo h x)) cv_X12_215 (by decide) (pc := 18) dX12_wrong_18 r_0 (r_lt (k := 0) hh (by decide)) rfl (Nat.le_of_ble_eq_true rfl) (fun x hx => pX12_fail_ok hh s k1 (s.1 15) x hx) rfl (fun x1 _ => ?_)
  exact s_vret (pc := 21) dX12_wrong_21 rfl (fun _ _ q => q)
def pX12_wrong (s : RS) : Option RS :=
  if (s.1 14) = (4 : Int32) then
    X12_wrong_j14 (1 : Int32) s
  else
    X12_wrong_j14 (2 : Int32) s
theorem pX12_wrong_w (hh : mo + 18 ≤ h.2.1) (s : RS) : aS l 1 MX12_wrong n0 S0 (oΦ (fun (x : RS) => (none, rH mo h x))) 0 [(0, .ref mo)] [] (rH mo h s) (pX12_wrong s) := by
  unfold pX12_wrong
  refine s_aload_n (pc := 0) 0 dX12_wrong_0 rfl ?_
  refine s_aload_n (pc := 1) 0 dX12_wrong_1 rfl ?_
  refine rg_126 hh (pc := 2) dX12_wrong_2 rfl ?_
  refine s_iconst (v := 4) (pc := 5) dX12_wrong_5 (by decide) ?_
  refine s_icmp_ne (tgt := 13) (pc := 6) dX12_wrong_6 (by decide) (fun _ => ?_) (fun _ => ?_)
  · refine s_iconst (v := 1) (pc := 9) dX12_wrong_9 (by decide) ?_
    refine s_goto (tgt := 14) (pc := 10) dX12_wrong_10 (by decide) ?_
    exact X12_wrong_j14_ok hh (1 : Int32) s
  · refine s_iconst (v := 2) (pc := 13) dX12_wrong_13 (by decide) ?_
    exact X12_wrong_j14_ok hh (2 : Int32) s
theorem pX12_wrong_ok (hh : mo + 18 ≤ h.2.1) (s : RS) : ∀ x, pX12_wrong s = some x → aMet l 1 yX12_wrong cX12_wrong 1 none [.ref mo] (rH mo h s) none (rH mo h x) := fun x hx => a_meth (ini := false) (y := yX12_wrong) (by decide +kernel) (fun q => by cases q) (fun _ => Nat.le_of_ble_eq_true rfl) (pX12_wrong_w hh s) x hx _ _ ⟨rfl, rfl⟩
end
section
variable {l : Launch} {n0 S0 : Nat} {mo : Nat} {h : aH}
abbrev MX12_must : aM := (cX12_must, RX12, 2, none, false)
def pX12_must (s : RS) (a0 : Bool) : Option RS :=
  if (s.1 12) ≤ 0 then
    if a0 = true then
      (pX12_next s).bind fun x2 =>
      some x2
    else
      (pX12_wrong s).bind fun x1 =>
      some x1
  else
    some s
theorem pX12_must_w (hh : mo + 18 ≤ h.2.1) (s : RS) (a0 : Bool) : aS l 2 MX12_must n0 S0 (oΦ (fun (x : RS) => (none, rH mo h x))) 0 [(0, .ref mo), (1, .int (b2i a0))] [] (rH mo h s) (pX12_must s a0) := by
  unfold pX12_must
  refine s_aload_n (pc := 0) 0 dX12_must_0 rfl ?_
  refine rg_209 hh (pc := 1) dX12_must_1 rfl ?_
  refine s_if_le (tgt := 8) (pc := 4) dX12_must_4 (by decide) (fun _ => ?_) (fun _ => ?_)
  · refine s_iload_n (pc := 8) 1 dX12_must_8 rfl ?_
    refine s_if_eqB (tgt := 19) (pc := 9) dX12_must_9 (by decide) (fun _ => ?_) (fun _ => ?_)
    · refine s_aload_n (pc := 12) 0 dX12_must_12 rfl ?_
      refine s_callV (M := MX12_must) (As := []) (st := []) (Ψ := fun (x : RS) => (none, rH mo h x)) cv_X12_219 (by decide) (pc := 13) dX12_must_13 r_0 (r_lt (k := 0) hh (by decide)) rfl (Nat.le_of_ble_eq_true rfl) (fun x hx => pX12_next_ok hh s x hx) rfl (fun x2 _ => ?_)
      refine s_goto (tgt := 23) (pc := 16) dX12_must_16 (by decide) ?_
      exact s_vret (pc := 23) dX12_must_23 rfl (fun _ _ q => q)
    · refine s_aload_n (pc := 19) 0 dX12_must_19 rfl ?_
      refine s_callV (M := MX12_must) (As := []) (st := []) (Ψ := fun (x : RS) => (none, rH mo h x)) cv_X12_222 (by decide) (pc := 20) dX12_must_20 r_0 (r_lt (k := 0) hh (by decide)) rfl (Nat.le_of_ble_eq_true rfl) (fun x hx => pX12_wrong_ok hh s x hx) rfl (fun x1 _ => ?_)
      exact s_vret (pc := 23) dX12_must_23 rfl (fun _ _ q => q)
  · exact s_vret (pc := 7) dX12_must_7 rfl (fun _ _ q => q)
theorem pX12_must_ok (hh : mo + 18 ≤ h.2.1) (s : RS) (a0 : Bool) : ∀ x, pX12_must s a0 = some x → aMet l 2 yX12_must cX12_must 2 none [.ref mo, .int (b2i a0)] (rH mo h s) none (rH mo h x) := fun x hx => a_meth (ini := false) (y := yX12_must) (by decide +kernel) (fun q => by cases q) (fun _ => Nat.le_of_ble_eq_true rfl) (pX12_must_w hh s a0) x hx _ _ ⟨rfl, rfl⟩
end
section
variable {l : Launch} {n0 S0 : Nat} {mo : Nat} {h : aH}
abbrev MX12_count : aM := (cX12_count, RX12, 4, (some .int), false)
def X12_count_j50 (s : RS) : Option (Int32 × RS) :=
  if (s.1 12) ≤ 0 then
    thn (s.1 17) fun x1 =>
    (pX12_next s).bind fun x2 =>
    some (x1, x2)
  else
    some ((0 : Int32), s)
theorem X12_count_j50_ok (hh : mo + 18 ≤ h.2.1) (s : RS) : aS l 2 MX12_count n0 S0 (oΦ (fun (x : Int32 × RS) => (some (.int x.1), rH mo h x.2))) 50 [(0, .ref mo)] [] (rH mo h s) (X12_count_j50 s) := by
  unfold X12_count_j50
  refine s_aload_n (pc := 50) 0 dX12_count_50 rfl ?_
  refine rg_209 hh (pc := 51) dX12_count_51 rfl ?_
  refine s_if_le (tgt := 59) (pc := 54) dX12_count_54 (by decide) (fun _ => ?_) (fun _ => ?_)
  · refine s_aload_n (pc := 59) 0 dX12_count_59 rfl ?_
    refine rg_145 hh (pc := 60) dX12_count_60 rfl ?_
    refine s_istore_nT (lv' := fun x1 => [(3, .int x1), (0, .ref mo)]) (pc := 63) dX12_count_63 (by decide) (fun _ => rfl) (fun x1 => ?_)
    refine s_aload_n (pc := 64) 1 dX12_count_64 rfl ?_
    refine s_callV (M := MX12_count) (As := []) (st := []) (Ψ := fun (x : RS) => (none, rH mo h x)) cv_X12_219 (by decide) (pc := 65) dX12_count_65 r_0 (r_lt (k := 0) hh (by decide)) rfl (Nat.le_of_ble_eq_true rfl) (fun x hx => pX12_next_ok hh s x hx) rfl (fun x2 _ => ?_)
    refine s_iload_n (pc := 68) 0 dX12_count_68 rfl ?_
    exact s_iret (pc := 69) dX12_count_69 rfl (fun _ _ q => q)
  · refine s_iconst (v := 0) (pc := 57) dX12_count_57 (by decide) ?_
    exact s_iret (pc := 58) dX12_count_58 rfl (fun _ _ q => q)
def X12_count_j19 (v1 : Int32) (v2 : Int32) (s : RS) : Option (Int32 × RS) :=
  if (s.1 12) = 0 then
    (pX12_isIn ((s.1 17).toInt64) v1.toInt64 v2.toInt64).bind fun x3 =>
    if x3 = true then
      X12_count_j50 s
    else
      (pX12_fail s (4 : Int32) (s.1 15)).bind fun x4 =>
      X12_count_j50 x4
  else
    X12_count_j50 s
theorem X12_count_j19_ok (hh : mo + 18 ≤ h.2.1) (v1 : Int32) (v2 : Int32) (s : RS) : aS l 2 MX12_count n0 S0 (oΦ (fun (x : Int32 × RS) => (some (.int x.1), rH mo h x.2))) 19 [(0, .ref mo), (1, .int v1), (2, .int v2)] [] (rH mo h s) (X12_count_j19 v1 v2 s) := by
  unfold X12_count_j19
  refine s_aload_n (pc := 19) 0 dX12_count_19 rfl ?_
  refine rg_209 hh (pc := 20) dX12_count_20 rfl ?_
  refine s_if_ne (tgt := 50) (pc := 23) dX12_count_23 (by decide) (fun _ => ?_) (fun _ => ?_)
  · refine s_aload_n (pc := 26) 0 dX12_count_26 rfl ?_
    refine rg_145 hh (pc := 27) dX12_count_27 rfl ?_
    refine s_i2l (pc := 30) dX12_count_30 ?_
    refine s_iload_n (pc := 31) 1 dX12_count_31 rfl ?_
    refine s_i2l (pc := 32) dX12_count_32 ?_
    refine s_iload_n (pc := 33) 2 dX12_count_33 rfl ?_
    refine s_i2l (pc := 34) dX12_count_34 ?_
    refine s_callS (M := MX12_count) (As := [.long (s.1 17).toInt64, .long v1.toInt64, .long v2.toInt64]) (st := []) (Ψ := fun (x : Bool) => (some (.int (b2i x)), rH mo h s)) cs_X12_110 (by decide) (pc := 35) dX12_count_35 rfl (Nat.le_of_ble_eq_true rfl) (fun x hx => pX12_isIn_ok ((s.1 17).toInt64) v1.toInt64 v2.toInt64 x hx) rfl (fun x3 _ => ?_)
    refine s_if_neB (tgt := 50) (pc := 38) dX12_count_38 (by decide) (fun _ => ?_) (fun _ => ?_)
    · refine s_sub [0] rfl ?_
      exact X12_count_j50_ok hh s
    · refine s_aload_n (pc := 41) 0 dX12_count_41 rfl ?_
      refine s_iconst (v := 4) (pc := 42) dX12_count_42 (by decide) ?_
      refine s_aload_n (pc := 43) 0 dX12_count_43 rfl ?_
      refine rg_120 hh (pc := 44) dX12_count_44 rfl ?_
      refine s_callV (M := MX12_count) (As := [.int 4, .int (s.1 15)]) (st := []) (Ψ := fun (x : RS) => (none, rH mo h x)) cv_X12_215 (by decide) (pc := 47) dX12_count_47 r_0 (r_lt (k := 0) hh (by decide)) rfl (Nat.le_of_ble_eq_true rfl) (fun x hx => pX12_fail_ok hh s (4 : Int32) (s.1 15) x hx) rfl (fun x4 _ => ?_)
      refine s_sub [0] rfl ?_
      exact X12_count_j50_ok hh x4
  · refine s_sub [0] rfl ?_
    exact X12_count_j50_ok hh s
def pX12_count (s : RS) (a0 : Int32) (a1 : Int32) : Option (Int32 × RS) :=
  if (s.1 12) = 0 then
    if (s.1 14) = (2 : Int32) then
      X12_count_j19 a0 a1 s
    else
      (pX12_wrong s).bind fun x5 =>
      X12_count_j19 a0 a1 x5
  else
    X12_count_j19 a0 a1 s
theorem pX12_count_w (hh : mo + 18 ≤ h.2.1) (s : RS) (a0 : Int32) (a1 : Int32) : aS l 2 MX12_count n0 S0 (oΦ (fun (x : Int32 × RS) => (some (.int x.1), rH mo h x.2))) 0 [(0, .ref mo), (1, .int a0), (2, .int a1)] [] (rH mo h s) (pX12_count s a0 a1) := by
  unfold pX12_count
  refine s_aload_n (pc := 0) 0 dX12_count_0 rfl ?_
  refine rg_209 hh (pc := 1) dX12_count_1 rfl ?_
  refine s_if_ne (tgt := 19) (pc := 4) dX12_count_4 (by decide) (fun _ => ?_) (fun _ => ?_)
  · refine s_aload_n (pc := 7) 0 dX12_count_7 rfl ?_
    refine rg_126 hh (pc := 8) dX12_count_8 rfl ?_
    refine s_iconst (v := 2) (pc := 11) dX12_count_11 (by decide) ?_
    refine s_icmp_eq (tgt := 19) (pc := 12) dX12_count_12 (by decide) (fun _ => ?_) (fun _ => ?_)
    · exact X12_count_j19_ok hh a0 a1 s
    · refine s_aload_n (pc := 15) 0 dX12_count_15 rfl ?_
      refine s_callV (M := MX12_count) (As := []) (st := []) (Ψ := fun (x : RS) => (none, rH mo h x)) cv_X12_222 (by decide) (pc := 16) dX12_count_16 r_0 (r_lt (k := 0) hh (by decide)) rfl (Nat.le_of_ble_eq_true rfl) (fun x hx => pX12_wrong_ok hh s x hx) rfl (fun x5 _ => ?_)
      exact X12_count_j19_ok hh a0 a1 x5
  · exact X12_count_j19_ok hh a0 a1 s
theorem pX12_count_ok (hh : mo + 18 ≤ h.2.1) (s : RS) (a0 : Int32) (a1 : Int32) : ∀ x, pX12_count s a0 a1 = some x → aMet l 2 yX12_count cX12_count 4 (some .int) [.ref mo, .int a0, .int a1] (rH mo h s) (some (.int x.1)) (rH mo h x.2) := fun x hx => a_meth (ini := false) (y := yX12_count) (by decide +kernel) (fun q => by cases q) (fun _ => Nat.le_of_ble_eq_true rfl) (pX12_count_w hh s a0 a1) x hx _ _ ⟨rfl, rfl⟩
end
section
variable {l : Launch} {n0 S0 : Nat} {mo : Nat} {h : aH}
abbrev MX12_lay : aM := (cX12_lay, RX12, 3, none, false)
def X12_lay_x2 (l : Launch) (n0 S0 : Nat) (mo : Nat) (h : aH) (v1 : Int32) : RS → Option Value → aH → Prop := fun (x : RS) r h' => aEv l 0 MX12_lay n0 S0 38 [] [] (rH mo h x) r h'
def X12_lay_b2 (v1 : Int32) (v2 : Int32) (s : RS) : Option ((Int32 × RS) ⊕ RS) :=
  if v2 < 0 then
    some (.inr s)
  else
    g_in (s.1 8) 900 (thn (uA s 3 (upd (s.2.2.1 3) (s.1 8).toNatClampNeg ((v1 >>> (((8 : Int32) * v2) &&& 31)).toInt8.toInt32).toInt8.toInt32)) fun s1 =>
    thn (uI s1 8 ((s1.1 8) + (1 : Int32))) fun s2 =>
    thn (v2 + (-1)) fun x3 =>
    some (.inl (x3, s2)))
theorem X12_lay_b2_ok (hh : mo + 18 ≤ h.2.1) (v1 : Int32) (v2 : Int32) (s : RS) : aS l 0 MX12_lay n0 S0 (a_LΦ (X12_lay_x2 l n0 S0 mo h v1) l 0 MX12_lay n0 S0 2 (fun (q : Int32 × RS) => [(0, .ref mo), (1, .int v1), (2, .int q.1)]) (fun _ => []) (fun (q : Int32 × RS) => rH mo h q.2)) 2 [(0, .ref mo), (1, .int v1), (2, .int v2)] [] (rH mo h s) (X12_lay_b2 v1 v2 s) := by
  unfold X12_lay_b2
  refine s_iload_n (pc := 2) 2 dX12_lay_2 rfl ?_
  refine s_if_lt (tgt := 38) (pc := 3) dX12_lay_3 (by decide) (fun _ => ?_) (fun _ => ?_)
  · refine s_sub [] rfl ?_
    exact s_ev (fun _ _ q => q)
  · refine s_aload_n (pc := 6) 0 dX12_lay_6 rfl ?_
    refine rg_24 hh (pc := 7) dX12_lay_7 rfl ?_
    refine s_aload_n (pc := 10) 0 dX12_lay_10 rfl ?_
    refine rg_225 hh (pc := 11) dX12_lay_11 rfl ?_
    refine s_iload_n (pc := 14) 1 dX12_lay_14 rfl ?_
    refine s_bipush (v := 8) (pc := 15) dX12_lay_15 (by decide) ?_
    refine s_iload_n (pc := 17) 2 dX12_lay_17 rfl ?_
    refine s_imul (pc := 18) dX12_lay_18 ?_
    refine s_ishr (pc := 19) dX12_lay_19 ?_
    refine s_i2b (pc := 20) dX12_lay_20 ?_
    refine rs_3 hh (pc := 21) dX12_lay_21 (fun s1 => ?_)
    refine s_aload_n (pc := 22) 0 dX12_lay_22 rfl ?_
    refine s_dup (pc := 23) dX12_lay_23 rfl ?_
    refine rg_225 hh (pc := 24) dX12_lay_24 rfl ?_
    refine s_iconst (v := 1) (pc := 27) dX12_lay_27 (by decide) ?_
    refine s_iadd (pc := 28) dX12_lay_28 ?_
    refine rp_225 hh (pc := 29) dX12_lay_29 rfl (fun s2 => ?_)
    refine s_iincT (pc := 32) 2 (lv' := fun x3 => [(2, .int x3), (0, .ref mo), (1, .int v1)]) dX12_lay_32 rfl rfl (by decide) (fun _ => rfl) (fun x3 => ?_)
    refine s_goto (tgt := 2) (pc := 35) dX12_lay_35 (by decide) ?_
    refine s_sub [1, 2, 0] rfl ?_
    exact s_ev (fun _ _ q => q)
def pX12_lay (s : RS) (a0 : Int32) : Option RS :=
  (a_loop (fun (q : Int32 × RS) => X12_lay_b2 a0 q.1 q.2) FU ((3 : Int32), s)).bind fun (t4 : RS) =>
    some t4
theorem pX12_lay_w (hh : mo + 18 ≤ h.2.1) (s : RS) (a0 : Int32) : aS l 0 MX12_lay n0 S0 (oΦ (fun (x : RS) => (none, rH mo h x))) 0 [(0, .ref mo), (1, .int a0)] [] (rH mo h s) (pX12_lay s a0) := by
  unfold pX12_lay
  refine s_iconst (v := 3) (pc := 0) dX12_lay_0 (by decide) ?_
  refine s_istore_n (lv' := [(2, .int 3), (0, .ref mo), (1, .int a0)]) (pc := 1) dX12_lay_1 (by decide) rfl ?_
  refine s_bind (Ψ := X12_lay_x2 l n0 S0 mo h a0) ?_ ?_
  · refine s_sub [1, 2, 0] rfl ?_
    exact s_loop (lvf := fun (q : Int32 × RS) => [(0, .ref mo), (1, .int a0), (2, .int q.1)]) (stf := fun _ => []) (hf := fun (q : Int32 × RS) => rH mo h q.2) (fun q => X12_lay_b2_ok hh a0 q.1 q.2) FU ((3 : Int32), s)
  · intro t4 z r h' hz hr
    refine (?_ : aS l 0 MX12_lay n0 S0 (oΦ (fun (x : RS) => (none, rH mo h x))) 38 [] [] (rH mo h t4) _) z hz r h' hr
    exact s_vret (pc := 38) dX12_lay_38 rfl (fun _ _ q => q)
theorem pX12_lay_ok (hh : mo + 18 ≤ h.2.1) (s : RS) (a0 : Int32) : ∀ x, pX12_lay s a0 = some x → aMet l 0 yX12_lay cX12_lay 3 none [.ref mo, .int a0] (rH mo h s) none (rH mo h x) := fun x hx => a_meth (ini := false) (y := yX12_lay) (by decide +kernel) (fun q => by cases q) (fun _ => Nat.le_of_ble_eq_true rfl) (pX12_lay_w hh s a0) x hx _ _ ⟨rfl, rfl⟩
end
section
variable {l : Launch} {n0 S0 : Nat} {mo : Nat} {h : aH}
abbrev MX12_feed : aM := (cX12_feed, RX12, 6, (some .int), false)
def pX12_feed (s : RS) (a0 : Int32) (a1 : Int32) (a2 : Int32) (a3 : Int32) (a4 : Int32) : Option (Int32 × RS) :=
  thn (uI s 1 (0 : Int32)) fun s1 =>
  if ((s1.1 8) + (20 : Int32)) ≤ (900 : Int32) then
    (pX12_lay s1 a0).bind fun x2 =>
    (pX12_lay x2 a1).bind fun x3 =>
    (pX12_lay x3 a2).bind fun x4 =>
    (pX12_lay x4 a3).bind fun x5 =>
    (pX12_lay x5 a4).bind fun x6 =>
    some ((x6.1 8), x6)
  else
    some ((-1 : Int32), s1)
theorem pX12_feed_w (hh : mo + 18 ≤ h.2.1) (s : RS) (a0 : Int32) (a1 : Int32) (a2 : Int32) (a3 : Int32) (a4 : Int32) : aS l 1 MX12_feed n0 S0 (oΦ (fun (x : Int32 × RS) => (some (.int x.1), rH mo h x.2))) 0 [(0, .ref mo), (1, .int a0), (2, .int a1), (3, .int a2), (4, .int a3), (5, .int a4)] [] (rH mo h s) (pX12_feed s a0 a1 a2 a3 a4) := by
  unfold pX12_feed
  refine s_aload_n (pc := 0) 0 dX12_feed_0 rfl ?_
  refine s_iconst (v := 0) (pc := 1) dX12_feed_1 (by decide) ?_
  refine rp_75 hh (pc := 2) dX12_feed_2 rfl (fun s1 => ?_)
  refine s_aload_n (pc := 5) 0 dX12_feed_5 rfl ?_
  refine rg_225 hh (pc := 6) dX12_feed_6 rfl ?_
  refine s_bipush (v := 20) (pc := 9) dX12_feed_9 (by decide) ?_
  refine s_iadd (pc := 11) dX12_feed_11 ?_
  refine s_sipush (v := 900) (pc := 12) dX12_feed_12 (by decide) ?_
  refine s_icmp_le (tgt := 20) (pc := 15) dX12_feed_15 (by decide) (fun _ => ?_) (fun _ => ?_)
  · refine s_aload_n (pc := 20) 0 dX12_feed_20 rfl ?_
    refine s_iload_n (pc := 21) 1 dX12_feed_21 rfl ?_
    refine s_callV (M := MX12_feed) (As := [.int a0]) (st := []) (Ψ := fun (x : RS) => (none, rH mo h x)) cv_X12_228 (by decide) (pc := 22) dX12_feed_22 r_0 (r_lt (k := 0) hh (by decide)) rfl (Nat.le_of_ble_eq_true rfl) (fun x hx => pX12_lay_ok hh s1 a0 x hx) rfl (fun x2 _ => ?_)
    refine s_aload_n (pc := 25) 0 dX12_feed_25 rfl ?_
    refine s_iload_n (pc := 26) 2 dX12_feed_26 rfl ?_
    refine s_callV (M := MX12_feed) (As := [.int a1]) (st := []) (Ψ := fun (x : RS) => (none, rH mo h x)) cv_X12_228 (by decide) (pc := 27) dX12_feed_27 r_0 (r_lt (k := 0) hh (by decide)) rfl (Nat.le_of_ble_eq_true rfl) (fun x hx => pX12_lay_ok hh x2 a1 x hx) rfl (fun x3 _ => ?_)
    refine s_aload_n (pc := 30) 0 dX12_feed_30 rfl ?_
    refine s_iload_n (pc := 31) 3 dX12_feed_31 rfl ?_
    refine s_callV (M := MX12_feed) (As := [.int a2]) (st := []) (Ψ := fun (x : RS) => (none, rH mo h x)) cv_X12_228 (by decide) (pc := 32) dX12_feed_32 r_0 (r_lt (k := 0) hh (by decide)) rfl (Nat.le_of_ble_eq_true rfl) (fun x hx => pX12_lay_ok hh x3 a2 x hx) rfl (fun x4 _ => ?_)
    refine s_aload_n (pc := 35) 0 dX12_feed_35 rfl ?_
    refine s_iload (pc := 36) 4 dX12_feed_36 rfl ?_
    refine s_callV (M := MX12_feed) (As := [.int a3]) (st := []) (Ψ := fun (x : RS) => (none, rH mo h x)) cv_X12_228 (by decide) (pc := 38) dX12_feed_38 r_0 (r_lt (k := 0) hh (by decide)) rfl (Nat.le_of_ble_eq_true rfl) (fun x hx => pX12_lay_ok hh x4 a3 x hx) rfl (fun x5 _ => ?_)
    refine s_aload_n (pc := 41) 0 dX12_feed_41 rfl ?_
    refine s_iload (pc := 42) 5 dX12_feed_42 rfl ?_
    refine s_callV (M := MX12_feed) (As := [.int a4]) (st := []) (Ψ := fun (x : RS) => (none, rH mo h x)) cv_X12_228 (by decide) (pc := 44) dX12_feed_44 r_0 (r_lt (k := 0) hh (by decide)) rfl (Nat.le_of_ble_eq_true rfl) (fun x hx => pX12_lay_ok hh x5 a4 x hx) rfl (fun x6 _ => ?_)
    refine s_aload_n (pc := 47) 0 dX12_feed_47 rfl ?_
    refine rg_225 hh (pc := 48) dX12_feed_48 rfl ?_
    exact s_iret (pc := 51) dX12_feed_51 rfl (fun _ _ q => q)
  · refine s_iconst (v := (-1)) (pc := 18) dX12_feed_18 (by decide) ?_
    exact s_iret (pc := 19) dX12_feed_19 rfl (fun _ _ q => q)
theorem pX12_feed_ok (hh : mo + 18 ≤ h.2.1) (s : RS) (a0 : Int32) (a1 : Int32) (a2 : Int32) (a3 : Int32) (a4 : Int32) : ∀ x, pX12_feed s a0 a1 a2 a3 a4 = some x → aMet l 1 yX12_feed cX12_feed 6 (some .int) [.ref mo, .int a0, .int a1, .int a2, .int a3, .int a4] (rH mo h s) (some (.int x.1)) (rH mo h x.2) := fun x hx => a_meth (ini := false) (y := yX12_feed) (by decide +kernel) (fun q => by cases q) (fun _ => Nat.le_of_ble_eq_true rfl) (pX12_feed_w hh s a0 a1 a2 a3 a4) x hx _ _ ⟨rfl, rfl⟩
end
section
variable {l : Launch} {n0 S0 : Nat} {mo : Nat} {h : aH}
abbrev MX12_opens : aM := (cX12_opens, RX12, 3, (some .boolean), false)
def X12_opens_j17 (s : RS) : Option (Bool × RS) :=
  (pX12_no s (5 : Int32)).bind fun x1 =>
  some (x1.1, x1.2)
theorem X12_opens_j17_ok (hh : mo + 18 ≤ h.2.1) (s : RS) : aS l 2 MX12_opens n0 S0 (oΦ (fun (x : Bool × RS) => (some (.int (b2i x.1)), rH mo h x.2))) 17 [(0, .ref mo)] [] (rH mo h s) (X12_opens_j17 s) := by
  unfold X12_opens_j17
  refine s_aload_n (pc := 17) 0 dX12_opens_17 rfl ?_
  refine s_iconst (v := 5) (pc := 18) dX12_opens_18 (by decide) ?_
  refine s_callV (M := MX12_opens) (As := [.int 5]) (st := []) (Ψ := fun (x : Bool × RS) => (some (.int (b2i x.1)), rH mo h x.2)) cv_X12_90 (by decide) (pc := 19) dX12_opens_19 r_0 (r_lt (k := 0) hh (by decide)) rfl (Nat.le_of_ble_eq_true rfl) (fun x hx => pX12_no_ok hh s (5 : Int32) x hx) rfl (fun x1 _ => ?_)
  exact s_zretB (b := x1.1) (pc := 22) dX12_opens_22 rfl (fun _ _ q => q)
def pX12_opens (s : RS) (a0 : Int32) (a1 : Int32) : Option (Bool × RS) :=
  if a0 < 0 then
    X12_opens_j17 s
  else
    if (s.1 8) < a0 then
      X12_opens_j17 s
    else
      if a0 ≤ a1 then
        thn (uI s 9 a0) fun s2 =>
        thn (uI s2 8 (0 : Int32)) fun s3 =>
        thn (uI s3 16 (0 : Int32)) fun s4 =>
        thn (uI s4 12 (0 : Int32)) fun s5 =>
        (pX12_next s5).bind fun x6 =>
        some (true, x6)
      else
        X12_opens_j17 s
theorem pX12_opens_w (hh : mo + 18 ≤ h.2.1) (s : RS) (a0 : Int32) (a1 : Int32) : aS l 2 MX12_opens n0 S0 (oΦ (fun (x : Bool × RS) => (some (.int (b2i x.1)), rH mo h x.2))) 0 [(0, .ref mo), (1, .int a0), (2, .int a1)] [] (rH mo h s) (pX12_opens s a0 a1) := by
  unfold pX12_opens
  refine s_iload_n (pc := 0) 1 dX12_opens_0 rfl ?_
  refine s_if_lt (tgt := 17) (pc := 1) dX12_opens_1 (by decide) (fun _ => ?_) (fun _ => ?_)
  · refine s_sub [0] rfl ?_
    exact X12_opens_j17_ok hh s
  · refine s_iload_n (pc := 4) 1 dX12_opens_4 rfl ?_
    refine s_aload_n (pc := 5) 0 dX12_opens_5 rfl ?_
    refine rg_225 hh (pc := 6) dX12_opens_6 rfl ?_
    refine s_icmp_gt (tgt := 17) (pc := 9) dX12_opens_9 (by decide) (fun _ => ?_) (fun _ => ?_)
    · refine s_sub [0] rfl ?_
      exact X12_opens_j17_ok hh s
    · refine s_iload_n (pc := 12) 1 dX12_opens_12 rfl ?_
      refine s_iload_n (pc := 13) 2 dX12_opens_13 rfl ?_
      refine s_icmp_le (tgt := 23) (pc := 14) dX12_opens_14 (by decide) (fun _ => ?_) (fun _ => ?_)
      · refine s_aload_n (pc := 23) 0 dX12_opens_23 rfl ?_
        refine s_iload_n (pc := 24) 1 dX12_opens_24 rfl ?_
        refine rp_114 hh (pc := 25) dX12_opens_25 rfl (fun s2 => ?_)
        refine s_aload_n (pc := 28) 0 dX12_opens_28 rfl ?_
        refine s_iconst (v := 0) (pc := 29) dX12_opens_29 (by decide) ?_
        refine rp_225 hh (pc := 30) dX12_opens_30 rfl (fun s3 => ?_)
        refine s_aload_n (pc := 33) 0 dX12_opens_33 rfl ?_
        refine s_iconst (v := 0) (pc := 34) dX12_opens_34 (by decide) ?_
        refine rp_117 hh (pc := 35) dX12_opens_35 rfl (fun s4 => ?_)
        refine s_aload_n (pc := 38) 0 dX12_opens_38 rfl ?_
        refine s_iconst (v := 0) (pc := 39) dX12_opens_39 (by decide) ?_
        refine rp_209 hh (pc := 40) dX12_opens_40 rfl (fun s5 => ?_)
        refine s_aload_n (pc := 43) 0 dX12_opens_43 rfl ?_
        refine s_callV (M := MX12_opens) (As := []) (st := []) (Ψ := fun (x : RS) => (none, rH mo h x)) cv_X12_219 (by decide) (pc := 44) dX12_opens_44 r_0 (r_lt (k := 0) hh (by decide)) rfl (Nat.le_of_ble_eq_true rfl) (fun x hx => pX12_next_ok hh s5 x hx) rfl (fun x6 _ => ?_)
        refine s_iconst (v := 1) (pc := 47) dX12_opens_47 (by decide) ?_
        exact s_zretB (b := true) (pc := 48) dX12_opens_48 rfl (fun _ _ q => q)
      · refine s_sub [0] rfl ?_
        exact X12_opens_j17_ok hh s
theorem pX12_opens_ok (hh : mo + 18 ≤ h.2.1) (s : RS) (a0 : Int32) (a1 : Int32) : ∀ x, pX12_opens s a0 a1 = some x → aMet l 2 yX12_opens cX12_opens 3 (some .boolean) [.ref mo, .int a0, .int a1] (rH mo h s) (some (.int (b2i x.1))) (rH mo h x.2) := fun x hx => a_meth (ini := false) (y := yX12_opens) (by decide +kernel) (fun q => by cases q) (fun _ => Nat.le_of_ble_eq_true rfl) (pX12_opens_w hh s a0 a1) x hx _ _ ⟨rfl, rfl⟩
end
section
variable {l : Launch} {n0 S0 : Nat} {mo : Nat} {h : aH}
abbrev MX12_isWell : aM := (cX12_isWell, RX12, 1, (some .boolean), false)
def X12_isWell_j24 (k1 : Int32) (s : RS) : Option (Bool × RS) :=
  thn (uI s 11 k1) fun s2 =>
  if (s2.1 12) = 0 then
    some (true, s2)
  else
    (pX12_no s2 (10 : Int32)).bind fun x3 =>
    if x3.1 = true then
      some (true, x3.2)
    else
      some (false, x3.2)
theorem X12_isWell_j24_ok (hh : mo + 18 ≤ h.2.1) (k1 : Int32) (s : RS) : aS l 1 MX12_isWell n0 S0 (oΦ (fun (x : Bool × RS) => (some (.int (b2i x.1)), rH mo h x.2))) 24 [(0, .ref mo)] [.int k1, .ref mo] (rH mo h s) (X12_isWell_j24 k1 s) := by
  unfold X12_isWell_j24
  refine rp_32 hh (pc := 24) dX12_isWell_24 rfl (fun s2 => ?_)
  refine s_aload_n (pc := 27) 0 dX12_isWell_27 rfl ?_
  refine rg_209 hh (pc := 28) dX12_isWell_28 rfl ?_
  refine s_if_eq (tgt := 43) (pc := 31) dX12_isWell_31 (by decide) (fun _ => ?_) (fun _ => ?_)
  · refine s_iconst (v := 1) (pc := 43) dX12_isWell_43 (by decide) ?_
    refine s_goto (tgt := 48) (pc := 44) dX12_isWell_44 (by decide) ?_
    exact s_zretB (b := true) (pc := 48) dX12_isWell_48 rfl (fun _ _ q => q)
  · refine s_aload_n (pc := 34) 0 dX12_isWell_34 rfl ?_
    refine s_bipush (v := 10) (pc := 35) dX12_isWell_35 (by decide) ?_
    refine s_callV (M := MX12_isWell) (As := [.int 10]) (st := []) (Ψ := fun (x : Bool × RS) => (some (.int (b2i x.1)), rH mo h x.2)) cv_X12_90 (by decide) (pc := 37) dX12_isWell_37 r_0 (r_lt (k := 0) hh (by decide)) rfl (Nat.le_of_ble_eq_true rfl) (fun x hx => pX12_no_ok hh s2 (10 : Int32) x hx) rfl (fun x3 _ => ?_)
    refine s_if_eqB (tgt := 47) (pc := 40) dX12_isWell_40 (by decide) (fun _ => ?_) (fun _ => ?_)
    · refine s_iconst (v := 1) (pc := 43) dX12_isWell_43 (by decide) ?_
      refine s_goto (tgt := 48) (pc := 44) dX12_isWell_44 (by decide) ?_
      exact s_zretB (b := true) (pc := 48) dX12_isWell_48 rfl (fun _ _ q => q)
    · refine s_iconst (v := 0) (pc := 47) dX12_isWell_47 (by decide) ?_
      exact s_zretB (b := false) (pc := 48) dX12_isWell_48 rfl (fun _ _ q => q)
def pX12_isWell (s : RS) : Option (Bool × RS) :=
  thn (uI s 10 (s.1 12)) fun s1 =>
  if (s1.1 12) = 0 then
    X12_isWell_j24 (-1 : Int32) s1
  else
    X12_isWell_j24 (s1.1 13) s1
theorem pX12_isWell_w (hh : mo + 18 ≤ h.2.1) (s : RS) : aS l 1 MX12_isWell n0 S0 (oΦ (fun (x : Bool × RS) => (some (.int (b2i x.1)), rH mo h x.2))) 0 [(0, .ref mo)] [] (rH mo h s) (pX12_isWell s) := by
  unfold pX12_isWell
  refine s_aload_n (pc := 0) 0 dX12_isWell_0 rfl ?_
  refine s_aload_n (pc := 1) 0 dX12_isWell_1 rfl ?_
  refine rg_209 hh (pc := 2) dX12_isWell_2 rfl ?_
  refine rp_28 hh (pc := 5) dX12_isWell_5 rfl (fun s1 => ?_)
  refine s_aload_n (pc := 8) 0 dX12_isWell_8 rfl ?_
  refine s_aload_n (pc := 9) 0 dX12_isWell_9 rfl ?_
  refine rg_209 hh (pc := 10) dX12_isWell_10 rfl ?_
  refine s_if_ne (tgt := 20) (pc := 13) dX12_isWell_13 (by decide) (fun _ => ?_) (fun _ => ?_)
  · refine s_iconst (v := (-1)) (pc := 16) dX12_isWell_16 (by decide) ?_
    refine s_goto (tgt := 24) (pc := 17) dX12_isWell_17 (by decide) ?_
    exact X12_isWell_j24_ok hh (-1 : Int32) s1
  · refine s_aload_n (pc := 20) 0 dX12_isWell_20 rfl ?_
    refine rg_212 hh (pc := 21) dX12_isWell_21 rfl ?_
    exact X12_isWell_j24_ok hh (s1.1 13) s1
theorem pX12_isWell_ok (hh : mo + 18 ≤ h.2.1) (s : RS) : ∀ x, pX12_isWell s = some x → aMet l 1 yX12_isWell cX12_isWell 1 (some .boolean) [.ref mo] (rH mo h s) (some (.int (b2i x.1))) (rH mo h x.2) := fun x hx => a_meth (ini := false) (y := yX12_isWell) (by decide +kernel) (fun q => by cases q) (fun _ => Nat.le_of_ble_eq_true rfl) (pX12_isWell_w hh s) x hx _ _ ⟨rfl, rfl⟩
end
section
variable {l : Launch} {n0 S0 : Nat} {mo : Nat} {h : aH}
abbrev MX12_fault : aM := (cX12_fault, RX12, 2, (some .int), false)
def pX12_fault (s : RS) (a0 : Int32) : Option (Int32 × RS) :=
  thn (uI s 1 (0 : Int32)) fun s1 =>
  if a0 = 0 then
    some ((s1.1 10), s1)
  else
    if a0 = (1 : Int32) then
      some ((s1.1 11), s1)
    else
      some ((-1 : Int32), s1)
theorem pX12_fault_w (hh : mo + 18 ≤ h.2.1) (s : RS) (a0 : Int32) : aS l 0 MX12_fault n0 S0 (oΦ (fun (x : Int32 × RS) => (some (.int x.1), rH mo h x.2))) 0 [(0, .ref mo), (1, .int a0)] [] (rH mo h s) (pX12_fault s a0) := by
  unfold pX12_fault
  refine s_aload_n (pc := 0) 0 dX12_fault_0 rfl ?_
  refine s_iconst (v := 0) (pc := 1) dX12_fault_1 (by decide) ?_
  refine rp_75 hh (pc := 2) dX12_fault_2 rfl (fun s1 => ?_)
  refine s_iload_n (pc := 5) 1 dX12_fault_5 rfl ?_
  refine s_if_ne (tgt := 16) (pc := 6) dX12_fault_6 (by decide) (fun _ => ?_) (fun _ => ?_)
  · refine s_aload_n (pc := 9) 0 dX12_fault_9 rfl ?_
    refine rg_28 hh (pc := 10) dX12_fault_10 rfl ?_
    refine s_goto (tgt := 29) (pc := 13) dX12_fault_13 (by decide) ?_
    exact s_iret (pc := 29) dX12_fault_29 rfl (fun _ _ q => q)
  · refine s_iload_n (pc := 16) 1 dX12_fault_16 rfl ?_
    refine s_iconst (v := 1) (pc := 17) dX12_fault_17 (by decide) ?_
    refine s_icmp_ne (tgt := 28) (pc := 18) dX12_fault_18 (by decide) (fun _ => ?_) (fun _ => ?_)
    · refine s_aload_n (pc := 21) 0 dX12_fault_21 rfl ?_
      refine rg_32 hh (pc := 22) dX12_fault_22 rfl ?_
      refine s_goto (tgt := 29) (pc := 25) dX12_fault_25 (by decide) ?_
      exact s_iret (pc := 29) dX12_fault_29 rfl (fun _ _ q => q)
    · refine s_iconst (v := (-1)) (pc := 28) dX12_fault_28 (by decide) ?_
      exact s_iret (pc := 29) dX12_fault_29 rfl (fun _ _ q => q)
theorem pX12_fault_ok (hh : mo + 18 ≤ h.2.1) (s : RS) (a0 : Int32) : ∀ x, pX12_fault s a0 = some x → aMet l 0 yX12_fault cX12_fault 2 (some .int) [.ref mo, .int a0] (rH mo h s) (some (.int x.1)) (rH mo h x.2) := fun x hx => a_meth (ini := false) (y := yX12_fault) (by decide +kernel) (fun q => by cases q) (fun _ => Nat.le_of_ble_eq_true rfl) (pX12_fault_w hh s a0) x hx _ _ ⟨rfl, rfl⟩
end
section
variable {l : Launch} {n0 S0 : Nat} {mo : Nat} {h : aH}
abbrev MX12_named : aM := (cX12_named, RX12, 5, (some .int), false)
def X12_named_x3 (l : Launch) (n0 S0 : Nat) (mo : Nat) (h : aH) (v1 : Int32) (v2 : Int32) (v3 : Int32) (s : RS) : (Int32 ⊕ Unit) → Option Value → aH → Prop := Sum.elim (fun (x : Int32) (r : Option Value) (h' : aH) => aEv l 0 MX12_named n0 S0 31 [(4, .int x)] [] (rH mo h s) r h') (fun (x : Unit) (r : Option Value) (h' : aH) => aEv l 0 MX12_named n0 S0 40 [] [] (rH mo h s) r h')
def X12_named_b3 (v1 : Int32) (v2 : Int32) (v3 : Int32) (v4 : Int32) (s : RS) : Option (Int32 ⊕ (Int32 ⊕ Unit)) :=
  if v3 ≤ v4 then
    some (.inr (.inr ()))
  else
    g_in ((((20 : Int32) * v1) + v2) + v4) 100 (
    if (s.2.2.2 5 ((((20 : Int32) * v1) + v2) + v4).toNatClampNeg) = (s.2.1 19) then
      some (.inr (.inl v4))
    else
      thn (v4 + 1) fun x1 =>
      some (.inl x1))
theorem X12_named_b3_ok (hh : mo + 18 ≤ h.2.1) (v1 : Int32) (v2 : Int32) (v3 : Int32) (v4 : Int32) (s : RS) : aS l 0 MX12_named n0 S0 (a_LΦ (X12_named_x3 l n0 S0 mo h v1 v2 v3 s) l 0 MX12_named n0 S0 3 (fun (q : Int32) => [(0, .ref mo), (1, .int v1), (2, .int v2), (3, .int v3), (4, .int q)]) (fun _ => []) (fun (q : Int32) => rH mo h s)) 3 [(0, .ref mo), (1, .int v1), (2, .int v2), (3, .int v3), (4, .int v4)] [] (rH mo h s) (X12_named_b3 v1 v2 v3 v4 s) := by
  unfold X12_named_b3
  refine s_iload (pc := 3) 4 dX12_named_3 rfl ?_
  refine s_iload_n (pc := 5) 3 dX12_named_5 rfl ?_
  refine s_icmp_ge (tgt := 40) (pc := 6) dX12_named_6 (by decide) (fun _ => ?_) (fun _ => ?_)
  · refine s_sub [] rfl ?_
    exact s_ev (fun _ _ q => q)
  · refine s_aload_n (pc := 9) 0 dX12_named_9 rfl ?_
    refine rg_38 hh (pc := 10) dX12_named_10 rfl ?_
    refine s_bipush (v := 20) (pc := 13) dX12_named_13 (by decide) ?_
    refine s_iload_n (pc := 15) 1 dX12_named_15 rfl ?_
    refine s_imul (pc := 16) dX12_named_16 ?_
    refine s_iload_n (pc := 17) 2 dX12_named_17 rfl ?_
    refine s_iadd (pc := 18) dX12_named_18 ?_
    refine s_iload (pc := 19) 4 dX12_named_19 rfl ?_
    refine s_iadd (pc := 21) dX12_named_21 ?_
    refine rl_5 hh (pc := 22) dX12_named_22 ?_
    refine s_aload_n (pc := 23) 0 dX12_named_23 rfl ?_
    refine rg_132 hh (pc := 24) dX12_named_24 rfl ?_
    refine s_lcmp (pc := 27) dX12_named_27 ?_
    refine s_ifL (lg_cmp_z _ _) (s_if_ne (tgt := 34) (pc := 28) dX12_named_28 (by decide) (fun _ => ?_) (fun _ => ?_))
    · refine s_sub [4] rfl ?_
      exact s_ev (fun _ _ q => q)
    · refine s_iincT (pc := 34) 4 (lv' := fun x1 => [(4, .int x1), (0, .ref mo), (1, .int v1), (2, .int v2), (3, .int v3)]) dX12_named_34 rfl rfl (by decide) (fun _ => rfl) (fun x1 => ?_)
      refine s_goto (tgt := 3) (pc := 37) dX12_named_37 (by decide) ?_
      refine s_sub [1, 2, 3, 4, 0] rfl ?_
      exact s_ev (fun _ _ q => q)
def pX12_named (s : RS) (a0 : Int32) (a1 : Int32) (a2 : Int32) : Option Int32 :=
  (a_loop (fun (q : Int32) => X12_named_b3 a0 a1 a2 q s) FU (0 : Int32)).bind (Sum.elim (fun (t2 : Int32) =>
      some t2)
    (fun (t3 : Unit) =>
      some (-1 : Int32)))
theorem pX12_named_w (hh : mo + 18 ≤ h.2.1) (s : RS) (a0 : Int32) (a1 : Int32) (a2 : Int32) : aS l 0 MX12_named n0 S0 (oΦ (fun (x : Int32) => (some (.int x), rH mo h s))) 0 [(0, .ref mo), (1, .int a0), (2, .int a1), (3, .int a2)] [] (rH mo h s) (pX12_named s a0 a1 a2) := by
  unfold pX12_named
  refine s_iconst (v := 0) (pc := 0) dX12_named_0 (by decide) ?_
  refine s_istore (lv' := [(4, .int 0), (0, .ref mo), (1, .int a0), (2, .int a1), (3, .int a2)]) (pc := 1) dX12_named_1 (by decide) rfl ?_
  refine s_bind (Ψ := X12_named_x3 l n0 S0 mo h a0 a1 a2 s) ?_ ?_
  · refine s_sub [1, 2, 3, 4, 0] rfl ?_
    exact s_loop (lvf := fun (q : Int32) => [(0, .ref mo), (1, .int a0), (2, .int a1), (3, .int a2), (4, .int q)]) (stf := fun _ => []) (hf := fun (q : Int32) => rH mo h s) (fun q => X12_named_b3_ok hh a0 a1 a2 q s) FU (0 : Int32)
  · intro x z r h' hz hr
    rcases x with t2 | t3
    · refine (?_ : aS l 0 MX12_named n0 S0 (oΦ (fun (x : Int32) => (some (.int x), rH mo h s))) 31 [(4, .int t2)] [] (rH mo h s) _) z (show _ = some z from hz) r h' hr
      refine s_iload (pc := 31) 0 dX12_named_31 rfl ?_
      exact s_iret (pc := 33) dX12_named_33 rfl (fun _ _ q => q)
    · refine (?_ : aS l 0 MX12_named n0 S0 (oΦ (fun (x : Int32) => (some (.int x), rH mo h s))) 40 [] [] (rH mo h s) _) z (show _ = some z from hz) r h' hr
      refine s_iconst (v := (-1)) (pc := 40) dX12_named_40 (by decide) ?_
      exact s_iret (pc := 41) dX12_named_41 rfl (fun _ _ q => q)
theorem pX12_named_ok (hh : mo + 18 ≤ h.2.1) (s : RS) (a0 : Int32) (a1 : Int32) (a2 : Int32) : ∀ x, pX12_named s a0 a1 a2 = some x → aMet l 0 yX12_named cX12_named 5 (some .int) [.ref mo, .int a0, .int a1, .int a2] (rH mo h s) (some (.int x)) (rH mo h s) := fun x hx => a_meth (ini := false) (y := yX12_named) (by decide +kernel) (fun q => by cases q) (fun _ => Nat.le_of_ble_eq_true rfl) (pX12_named_w hh s a0 a1 a2) x hx _ _ ⟨rfl, rfl⟩
end
section
variable {l : Launch} {n0 S0 : Nat} {mo : Nat} {h : aH}
abbrev MX12_readNew : aM := (cX12_readNew, RX12, 3, none, false)
def X12_readNew_j66 (v1 : Int32) (v2 : Int32) (s : RS) : Option RS :=
  if (s.1 12) ≤ 0 then
    g_in (((80 : Int32) + v1) + v2) 100 (thn (uB s 5 (vp_updL (s.2.2.2 5) (((80 : Int32) + v1) + v2).toNatClampNeg (s.2.1 19))) fun s3 =>
    (pX12_next s3).bind fun x4 =>
    some x4)
  else
    some s
theorem X12_readNew_j66_ok (hh : mo + 18 ≤ h.2.1) (v1 : Int32) (v2 : Int32) (s : RS) : aS l 4 MX12_readNew n0 S0 (oΦ (fun (x : RS) => (none, rH mo h x))) 66 [(0, .ref mo), (1, .int v1), (2, .int v2)] [] (rH mo h s) (X12_readNew_j66 v1 v2 s) := by
  unfold X12_readNew_j66
  refine s_aload_n (pc := 66) 0 dX12_readNew_66 rfl ?_
  refine rg_209 hh (pc := 67) dX12_readNew_67 rfl ?_
  refine s_if_le (tgt := 74) (pc := 70) dX12_readNew_70 (by decide) (fun _ => ?_) (fun _ => ?_)
  · refine s_aload_n (pc := 74) 0 dX12_readNew_74 rfl ?_
    refine rg_38 hh (pc := 75) dX12_readNew_75 rfl ?_
    refine s_bipush (v := 80) (pc := 78) dX12_readNew_78 (by decide) ?_
    refine s_iload_n (pc := 80) 1 dX12_readNew_80 rfl ?_
    refine s_iadd (pc := 81) dX12_readNew_81 ?_
    refine s_iload_n (pc := 82) 2 dX12_readNew_82 rfl ?_
    refine s_iadd (pc := 83) dX12_readNew_83 ?_
    refine s_aload_n (pc := 84) 0 dX12_readNew_84 rfl ?_
    refine rg_132 hh (pc := 85) dX12_readNew_85 rfl ?_
    refine rs_5 hh (pc := 88) dX12_readNew_88 (fun s3 => ?_)
    refine s_aload_n (pc := 89) 0 dX12_readNew_89 rfl ?_
    refine s_callV (M := MX12_readNew) (As := []) (st := []) (Ψ := fun (x : RS) => (none, rH mo h x)) cv_X12_219 (by decide) (pc := 90) dX12_readNew_90 r_0 (r_lt (k := 0) hh (by decide)) rfl (Nat.le_of_ble_eq_true rfl) (fun x hx => pX12_next_ok hh s3 x hx) rfl (fun x4 _ => ?_)
    exact s_vret (pc := 93) dX12_readNew_93 rfl (fun _ _ q => q)
  · exact s_vret (pc := 73) dX12_readNew_73 rfl (fun _ _ q => q)
def X12_readNew_j57 (v1 : Int32) (v2 : Int32) (s : RS) : Option RS :=
  (pX12_fail s (3 : Int32) (s.1 15)).bind fun x6 =>
  X12_readNew_j66 v1 v2 x6
theorem X12_readNew_j57_ok (hh : mo + 18 ≤ h.2.1) (v1 : Int32) (v2 : Int32) (s : RS) : aS l 4 MX12_readNew n0 S0 (oΦ (fun (x : RS) => (none, rH mo h x))) 57 [(0, .ref mo), (1, .int v1), (2, .int v2)] [] (rH mo h s) (X12_readNew_j57 v1 v2 s) := by
  unfold X12_readNew_j57
  refine s_aload_n (pc := 57) 0 dX12_readNew_57 rfl ?_
  refine s_iconst (v := 3) (pc := 58) dX12_readNew_58 (by decide) ?_
  refine s_aload_n (pc := 59) 0 dX12_readNew_59 rfl ?_
  refine rg_120 hh (pc := 60) dX12_readNew_60 rfl ?_
  refine s_callV (M := MX12_readNew) (As := [.int 3, .int (s.1 15)]) (st := []) (Ψ := fun (x : RS) => (none, rH mo h x)) cv_X12_215 (by decide) (pc := 63) dX12_readNew_63 r_0 (r_lt (k := 0) hh (by decide)) rfl (Nat.le_of_ble_eq_true rfl) (fun x hx => pX12_fail_ok hh s (3 : Int32) (s.1 15) x hx) rfl (fun x6 _ => ?_)
  exact X12_readNew_j66_ok hh v1 v2 x6
def X12_readNew_j15 (v1 : Int32) (v2 : Int32) (s : RS) : Option RS :=
  if (s.1 12) = 0 then
    g_in (1440 : Int32) 1800 (
    (pX12_named s (4 : Int32) (0 : Int32) (s.2.2.1 4 (1440 : Int32).toNatClampNeg)).bind fun x5 =>
    if 0 ≤ x5 then
      X12_readNew_j57 v1 v2 s
    else
      g_in (1441 : Int32) 1800 (
      (pX12_named s (4 : Int32) (16 : Int32) (s.2.2.1 4 (1441 : Int32).toNatClampNeg)).bind fun x7 =>
      if x7 < 0 then
        X12_readNew_j66 v1 v2 s
      else
        X12_readNew_j57 v1 v2 s))
  else
    X12_readNew_j66 v1 v2 s
theorem X12_readNew_j15_ok (hh : mo + 18 ≤ h.2.1) (v1 : Int32) (v2 : Int32) (s : RS) : aS l 4 MX12_readNew n0 S0 (oΦ (fun (x : RS) => (none, rH mo h x))) 15 [(0, .ref mo), (1, .int v1), (2, .int v2)] [] (rH mo h s) (X12_readNew_j15 v1 v2 s) := by
  unfold X12_readNew_j15
  refine s_aload_n (pc := 15) 0 dX12_readNew_15 rfl ?_
  refine rg_209 hh (pc := 16) dX12_readNew_16 rfl ?_
  refine s_if_ne (tgt := 66) (pc := 19) dX12_readNew_19 (by decide) (fun _ => ?_) (fun _ => ?_)
  · refine s_aload_n (pc := 22) 0 dX12_readNew_22 rfl ?_
    refine s_iconst (v := 4) (pc := 23) dX12_readNew_23 (by decide) ?_
    refine s_iconst (v := 0) (pc := 24) dX12_readNew_24 (by decide) ?_
    refine s_aload_n (pc := 25) 0 dX12_readNew_25 rfl ?_
    refine rg_35 hh (pc := 26) dX12_readNew_26 rfl ?_
    refine s_sipush (v := 1440) (pc := 29) dX12_readNew_29 (by decide) ?_
    refine rl_4 hh (pc := 32) dX12_readNew_32 ?_
    refine s_callV (M := MX12_readNew) (As := [.int 4, .int 0, .int (s.2.2.1 4 (1440 : Int32).toNatClampNeg)]) (st := []) (Ψ := fun (x : Int32) => (some (.int x), rH mo h s)) cv_X12_235 (by decide) (pc := 33) dX12_readNew_33 r_0 (r_lt (k := 0) hh (by decide)) rfl (Nat.le_of_ble_eq_true rfl) (fun x hx => pX12_named_ok hh s (4 : Int32) (0 : Int32) (s.2.2.1 4 (1440 : Int32).toNatClampNeg) x hx) rfl (fun x5 _ => ?_)
    refine s_if_ge (tgt := 57) (pc := 36) dX12_readNew_36 (by decide) (fun _ => ?_) (fun _ => ?_)
    · exact X12_readNew_j57_ok hh v1 v2 s
    · refine s_aload_n (pc := 39) 0 dX12_readNew_39 rfl ?_
      refine s_iconst (v := 4) (pc := 40) dX12_readNew_40 (by decide) ?_
      refine s_bipush (v := 16) (pc := 41) dX12_readNew_41 (by decide) ?_
      refine s_aload_n (pc := 43) 0 dX12_readNew_43 rfl ?_
      refine rg_35 hh (pc := 44) dX12_readNew_44 rfl ?_
      refine s_sipush (v := 1441) (pc := 47) dX12_readNew_47 (by decide) ?_
      refine rl_4 hh (pc := 50) dX12_readNew_50 ?_
      refine s_callV (M := MX12_readNew) (As := [.int 4, .int 16, .int (s.2.2.1 4 (1441 : Int32).toNatClampNeg)]) (st := []) (Ψ := fun (x : Int32) => (some (.int x), rH mo h s)) cv_X12_235 (by decide) (pc := 51) dX12_readNew_51 r_0 (r_lt (k := 0) hh (by decide)) rfl (Nat.le_of_ble_eq_true rfl) (fun x hx => pX12_named_ok hh s (4 : Int32) (16 : Int32) (s.2.2.1 4 (1441 : Int32).toNatClampNeg) x hx) rfl (fun x7 _ => ?_)
      refine s_if_lt (tgt := 66) (pc := 54) dX12_readNew_54 (by decide) (fun _ => ?_) (fun _ => ?_)
      · exact X12_readNew_j66_ok hh v1 v2 s
      · exact X12_readNew_j57_ok hh v1 v2 s
  · exact X12_readNew_j66_ok hh v1 v2 s
def pX12_readNew (s : RS) (a0 : Int32) (a1 : Int32) : Option RS :=
  (pX12_next s).bind fun x1 =>
  (pX12_isName x1).bind fun x2 =>
  if x2 = true then
    X12_readNew_j15 a0 a1 x1
  else
    (pX12_wrong x1).bind fun x8 =>
    X12_readNew_j15 a0 a1 x8
theorem pX12_readNew_w (hh : mo + 18 ≤ h.2.1) (s : RS) (a0 : Int32) (a1 : Int32) : aS l 4 MX12_readNew n0 S0 (oΦ (fun (x : RS) => (none, rH mo h x))) 0 [(0, .ref mo), (1, .int a0), (2, .int a1)] [] (rH mo h s) (pX12_readNew s a0 a1) := by
  unfold pX12_readNew
  refine s_aload_n (pc := 0) 0 dX12_readNew_0 rfl ?_
  refine s_callV (M := MX12_readNew) (As := []) (st := []) (Ψ := fun (x : RS) => (none, rH mo h x)) cv_X12_219 (by decide) (pc := 1) dX12_readNew_1 r_0 (r_lt (k := 0) hh (by decide)) rfl (Nat.le_of_ble_eq_true rfl) (fun x hx => pX12_next_ok hh s x hx) rfl (fun x1 _ => ?_)
  refine s_aload_n (pc := 4) 0 dX12_readNew_4 rfl ?_
  refine s_callV (M := MX12_readNew) (As := []) (st := []) (Ψ := fun (x : Bool) => (some (.int (b2i x)), rH mo h x1)) cv_X12_232 (by decide) (pc := 5) dX12_readNew_5 r_0 (r_lt (k := 0) hh (by decide)) rfl (Nat.le_of_ble_eq_true rfl) (fun x hx => pX12_isName_ok hh x1 x hx) rfl (fun x2 _ => ?_)
  refine s_if_neB (tgt := 15) (pc := 8) dX12_readNew_8 (by decide) (fun _ => ?_) (fun _ => ?_)
  · exact X12_readNew_j15_ok hh a0 a1 x1
  · refine s_aload_n (pc := 11) 0 dX12_readNew_11 rfl ?_
    refine s_callV (M := MX12_readNew) (As := []) (st := []) (Ψ := fun (x : RS) => (none, rH mo h x)) cv_X12_222 (by decide) (pc := 12) dX12_readNew_12 r_0 (r_lt (k := 0) hh (by decide)) rfl (Nat.le_of_ble_eq_true rfl) (fun x hx => pX12_wrong_ok hh x1 x hx) rfl (fun x8 _ => ?_)
    exact X12_readNew_j15_ok hh a0 a1 x8
theorem pX12_readNew_ok (hh : mo + 18 ≤ h.2.1) (s : RS) (a0 : Int32) (a1 : Int32) : ∀ x, pX12_readNew s a0 a1 = some x → aMet l 4 yX12_readNew cX12_readNew 3 none [.ref mo, .int a0, .int a1] (rH mo h s) none (rH mo h x) := fun x hx => a_meth (ini := false) (y := yX12_readNew) (by decide +kernel) (fun q => by cases q) (fun _ => Nat.le_of_ble_eq_true rfl) (pX12_readNew_w hh s a0 a1) x hx _ _ ⟨rfl, rfl⟩
end
section
variable {l : Launch} {n0 S0 : Nat} {mo : Nat} {h : aH}
abbrev MX12_readTold : aM := (cX12_readTold, RX12, 2, (some .int), false)
def X12_readTold_j43 (k0 : Int32) (s : RS) : Option (Int32 × RS) :=
  if (s.1 12) = 0 then
    if 0 ≤ k0 then
      some (k0, s)
    else
      (pX12_fail s (3 : Int32) (s.1 15)).bind fun x1 =>
      some (k0, x1)
  else
    some (k0, s)
theorem X12_readTold_j43_ok (hh : mo + 18 ≤ h.2.1) (k0 : Int32) (s : RS) : aS l 4 MX12_readTold n0 S0 (oΦ (fun (x : Int32 × RS) => (some (.int x.1), rH mo h x.2))) 43 [(0, .ref mo)] [.int k0] (rH mo h s) (X12_readTold_j43 k0 s) := by
  unfold X12_readTold_j43
  refine s_istore_n (lv' := [(1, .int k0), (0, .ref mo)]) (pc := 43) dX12_readTold_43 (by decide) rfl ?_
  refine s_aload_n (pc := 44) 1 dX12_readTold_44 rfl ?_
  refine rg_209 hh (pc := 45) dX12_readTold_45 rfl ?_
  refine s_if_ne (tgt := 64) (pc := 48) dX12_readTold_48 (by decide) (fun _ => ?_) (fun _ => ?_)
  · refine s_iload_n (pc := 51) 0 dX12_readTold_51 rfl ?_
    refine s_if_ge (tgt := 64) (pc := 52) dX12_readTold_52 (by decide) (fun _ => ?_) (fun _ => ?_)
    · refine s_iload_n (pc := 64) 0 dX12_readTold_64 rfl ?_
      exact s_iret (pc := 65) dX12_readTold_65 rfl (fun _ _ q => q)
    · refine s_aload_n (pc := 55) 1 dX12_readTold_55 rfl ?_
      refine s_iconst (v := 3) (pc := 56) dX12_readTold_56 (by decide) ?_
      refine s_aload_n (pc := 57) 1 dX12_readTold_57 rfl ?_
      refine rg_120 hh (pc := 58) dX12_readTold_58 rfl ?_
      refine s_callV (M := MX12_readTold) (As := [.int 3, .int (s.1 15)]) (st := []) (Ψ := fun (x : RS) => (none, rH mo h x)) cv_X12_215 (by decide) (pc := 61) dX12_readTold_61 r_0 (r_lt (k := 0) hh (by decide)) rfl (Nat.le_of_ble_eq_true rfl) (fun x hx => pX12_fail_ok hh s (3 : Int32) (s.1 15) x hx) rfl (fun x1 _ => ?_)
      refine s_iload_n (pc := 64) 0 dX12_readTold_64 rfl ?_
      exact s_iret (pc := 65) dX12_readTold_65 rfl (fun _ _ q => q)
  · refine s_iload_n (pc := 64) 0 dX12_readTold_64 rfl ?_
    exact s_iret (pc := 65) dX12_readTold_65 rfl (fun _ _ q => q)
def X12_readTold_j18 (s : RS) : Option (Int32 × RS) :=
  if (s.1 12) = 0 then
    g_in (1440 : Int32) 1800 (
    (pX12_named s (4 : Int32) (0 : Int32) (s.2.2.1 4 (1440 : Int32).toNatClampNeg)).bind fun x2 =>
    X12_readTold_j43 x2 s)
  else
    X12_readTold_j43 (0 : Int32) s
theorem X12_readTold_j18_ok (hh : mo + 18 ≤ h.2.1) (s : RS) : aS l 4 MX12_readTold n0 S0 (oΦ (fun (x : Int32 × RS) => (some (.int x.1), rH mo h x.2))) 18 [(0, .ref mo)] [] (rH mo h s) (X12_readTold_j18 s) := by
  unfold X12_readTold_j18
  refine s_aload_n (pc := 18) 0 dX12_readTold_18 rfl ?_
  refine rg_209 hh (pc := 19) dX12_readTold_19 rfl ?_
  refine s_if_ne (tgt := 42) (pc := 22) dX12_readTold_22 (by decide) (fun _ => ?_) (fun _ => ?_)
  · refine s_aload_n (pc := 25) 0 dX12_readTold_25 rfl ?_
    refine s_iconst (v := 4) (pc := 26) dX12_readTold_26 (by decide) ?_
    refine s_iconst (v := 0) (pc := 27) dX12_readTold_27 (by decide) ?_
    refine s_aload_n (pc := 28) 0 dX12_readTold_28 rfl ?_
    refine rg_35 hh (pc := 29) dX12_readTold_29 rfl ?_
    refine s_sipush (v := 1440) (pc := 32) dX12_readTold_32 (by decide) ?_
    refine rl_4 hh (pc := 35) dX12_readTold_35 ?_
    refine s_callV (M := MX12_readTold) (As := [.int 4, .int 0, .int (s.2.2.1 4 (1440 : Int32).toNatClampNeg)]) (st := []) (Ψ := fun (x : Int32) => (some (.int x), rH mo h s)) cv_X12_235 (by decide) (pc := 36) dX12_readTold_36 r_0 (r_lt (k := 0) hh (by decide)) rfl (Nat.le_of_ble_eq_true rfl) (fun x hx => pX12_named_ok hh s (4 : Int32) (0 : Int32) (s.2.2.1 4 (1440 : Int32).toNatClampNeg) x hx) rfl (fun x2 _ => ?_)
    refine s_goto (tgt := 43) (pc := 39) dX12_readTold_39 (by decide) ?_
    exact X12_readTold_j43_ok hh x2 s
  · refine s_iconst (v := 0) (pc := 42) dX12_readTold_42 (by decide) ?_
    exact X12_readTold_j43_ok hh (0 : Int32) s
def pX12_readTold (s : RS) : Option (Int32 × RS) :=
  if (s.1 12) = 0 then
    (pX12_isName s).bind fun x3 =>
    if x3 = true then
      X12_readTold_j18 s
    else
      (pX12_wrong s).bind fun x4 =>
      X12_readTold_j18 x4
  else
    X12_readTold_j18 s
theorem pX12_readTold_w (hh : mo + 18 ≤ h.2.1) (s : RS) : aS l 4 MX12_readTold n0 S0 (oΦ (fun (x : Int32 × RS) => (some (.int x.1), rH mo h x.2))) 0 [(0, .ref mo)] [] (rH mo h s) (pX12_readTold s) := by
  unfold pX12_readTold
  refine s_aload_n (pc := 0) 0 dX12_readTold_0 rfl ?_
  refine rg_209 hh (pc := 1) dX12_readTold_1 rfl ?_
  refine s_if_ne (tgt := 18) (pc := 4) dX12_readTold_4 (by decide) (fun _ => ?_) (fun _ => ?_)
  · refine s_aload_n (pc := 7) 0 dX12_readTold_7 rfl ?_
    refine s_callV (M := MX12_readTold) (As := []) (st := []) (Ψ := fun (x : Bool) => (some (.int (b2i x)), rH mo h s)) cv_X12_232 (by decide) (pc := 8) dX12_readTold_8 r_0 (r_lt (k := 0) hh (by decide)) rfl (Nat.le_of_ble_eq_true rfl) (fun x hx => pX12_isName_ok hh s x hx) rfl (fun x3 _ => ?_)
    refine s_if_neB (tgt := 18) (pc := 11) dX12_readTold_11 (by decide) (fun _ => ?_) (fun _ => ?_)
    · exact X12_readTold_j18_ok hh s
    · refine s_aload_n (pc := 14) 0 dX12_readTold_14 rfl ?_
      refine s_callV (M := MX12_readTold) (As := []) (st := []) (Ψ := fun (x : RS) => (none, rH mo h x)) cv_X12_222 (by decide) (pc := 15) dX12_readTold_15 r_0 (r_lt (k := 0) hh (by decide)) rfl (Nat.le_of_ble_eq_true rfl) (fun x hx => pX12_wrong_ok hh s x hx) rfl (fun x4 _ => ?_)
      exact X12_readTold_j18_ok hh x4
  · exact X12_readTold_j18_ok hh s
theorem pX12_readTold_ok (hh : mo + 18 ≤ h.2.1) (s : RS) : ∀ x, pX12_readTold s = some x → aMet l 4 yX12_readTold cX12_readTold 2 (some .int) [.ref mo] (rH mo h s) (some (.int x.1)) (rH mo h x.2) := fun x hx => a_meth (ini := false) (y := yX12_readTold) (by decide +kernel) (fun q => by cases q) (fun _ => Nat.le_of_ble_eq_true rfl) (pX12_readTold_w hh s) x hx _ _ ⟨rfl, rfl⟩
end
section
variable {l : Launch} {n0 S0 : Nat} {mo : Nat} {h : aH}
abbrev MX12_kind : aM := (cX12_kind, RX12, 3, (some .int), false)
def pX12_kind (s : RS) (a0 : Int32) (a1 : Int32) : Option Int32 :=
  g_in ((a0 + (2 : Int32)) + a1) 1800 (
  some (s.2.2.1 4 ((a0 + (2 : Int32)) + a1).toNatClampNeg))
theorem pX12_kind_w (hh : mo + 18 ≤ h.2.1) (s : RS) (a0 : Int32) (a1 : Int32) : aS l 0 MX12_kind n0 S0 (oΦ (fun (x : Int32) => (some (.int x), rH mo h s))) 0 [(0, .ref mo), (1, .int a0), (2, .int a1)] [] (rH mo h s) (pX12_kind s a0 a1) := by
  unfold pX12_kind
  refine s_aload_n (pc := 0) 0 dX12_kind_0 rfl ?_
  refine rg_35 hh (pc := 1) dX12_kind_1 rfl ?_
  refine s_iload_n (pc := 4) 1 dX12_kind_4 rfl ?_
  refine s_iconst (v := 2) (pc := 5) dX12_kind_5 (by decide) ?_
  refine s_iadd (pc := 6) dX12_kind_6 ?_
  refine s_iload_n (pc := 7) 2 dX12_kind_7 rfl ?_
  refine s_iadd (pc := 8) dX12_kind_8 ?_
  refine rl_4 hh (pc := 9) dX12_kind_9 ?_
  exact s_iret (pc := 10) dX12_kind_10 rfl (fun _ _ q => q)
theorem pX12_kind_ok (hh : mo + 18 ≤ h.2.1) (s : RS) (a0 : Int32) (a1 : Int32) : ∀ x, pX12_kind s a0 a1 = some x → aMet l 0 yX12_kind cX12_kind 3 (some .int) [.ref mo, .int a0, .int a1] (rH mo h s) (some (.int x)) (rH mo h s) := fun x hx => a_meth (ini := false) (y := yX12_kind) (by decide +kernel) (fun q => by cases q) (fun _ => Nat.le_of_ble_eq_true rfl) (pX12_kind_w hh s a0 a1) x hx _ _ ⟨rfl, rfl⟩
end
section
variable {l : Launch} {n0 S0 : Nat} {mo : Nat} {h : aH}
abbrev MX12_hangsOn : aM := (cX12_hangsOn, RX12, 3, (some .int), false)
def pX12_hangsOn (s : RS) (a0 : Int32) (a1 : Int32) : Option Int32 :=
  g_in ((a0 + (98 : Int32)) + a1) 1800 (
  some (s.2.2.1 4 ((a0 + (98 : Int32)) + a1).toNatClampNeg))
theorem pX12_hangsOn_w (hh : mo + 18 ≤ h.2.1) (s : RS) (a0 : Int32) (a1 : Int32) : aS l 0 MX12_hangsOn n0 S0 (oΦ (fun (x : Int32) => (some (.int x), rH mo h s))) 0 [(0, .ref mo), (1, .int a0), (2, .int a1)] [] (rH mo h s) (pX12_hangsOn s a0 a1) := by
  unfold pX12_hangsOn
  refine s_aload_n (pc := 0) 0 dX12_hangsOn_0 rfl ?_
  refine rg_35 hh (pc := 1) dX12_hangsOn_1 rfl ?_
  refine s_iload_n (pc := 4) 1 dX12_hangsOn_4 rfl ?_
  refine s_bipush (v := 98) (pc := 5) dX12_hangsOn_5 (by decide) ?_
  refine s_iadd (pc := 7) dX12_hangsOn_7 ?_
  refine s_iload_n (pc := 8) 2 dX12_hangsOn_8 rfl ?_
  refine s_iadd (pc := 9) dX12_hangsOn_9 ?_
  refine rl_4 hh (pc := 10) dX12_hangsOn_10 ?_
  exact s_iret (pc := 11) dX12_hangsOn_11 rfl (fun _ _ q => q)
theorem pX12_hangsOn_ok (hh : mo + 18 ≤ h.2.1) (s : RS) (a0 : Int32) (a1 : Int32) : ∀ x, pX12_hangsOn s a0 a1 = some x → aMet l 0 yX12_hangsOn cX12_hangsOn 3 (some .int) [.ref mo, .int a0, .int a1] (rH mo h s) (some (.int x)) (rH mo h s) := fun x hx => a_meth (ini := false) (y := yX12_hangsOn) (by decide +kernel) (fun q => by cases q) (fun _ => Nat.le_of_ble_eq_true rfl) (pX12_hangsOn_w hh s a0 a1) x hx _ _ ⟨rfl, rfl⟩
end
section
variable {l : Launch} {n0 S0 : Nat} {mo : Nat} {h : aH}
abbrev MX12_thingOf : aM := (cX12_thingOf, RX12, 4, (some .int), false)
def X12_thingOf_x2 (l : Launch) (n0 S0 : Nat) (mo : Nat) (h : aH) (v1 : Int32) (s : RS) : Int32 → Option Value → aH → Prop := fun (x : Int32) r h' => aEv l 1 MX12_thingOf n0 S0 26 [(3, .int x)] [] (rH mo h s) r h'
def X12_thingOf_b2 (v1 : Int32) (v3 : Int32) (s : RS) : Option (Int32 ⊕ Int32) :=
  (pX12_kind s v1 v3).bind fun x1 =>
  if x1 = 0 then
    some (.inr v3)
  else
    g_in ((v1 + (50 : Int32)) + v3) 1800 (
    thn (s.2.2.1 4 ((v1 + (50 : Int32)) + v3).toNatClampNeg) fun x2 =>
    some (.inl x2))
theorem X12_thingOf_b2_ok (hh : mo + 18 ≤ h.2.1) (v1 : Int32) (v3 : Int32) (s : RS) : aS l 1 MX12_thingOf n0 S0 (a_LΦ (X12_thingOf_x2 l n0 S0 mo h v1 s) l 1 MX12_thingOf n0 S0 2 (fun (q : Int32) => [(0, .ref mo), (1, .int v1), (3, .int q)]) (fun _ => []) (fun (q : Int32) => rH mo h s)) 2 [(0, .ref mo), (1, .int v1), (3, .int v3)] [] (rH mo h s) (X12_thingOf_b2 v1 v3 s) := by
  unfold X12_thingOf_b2
  refine s_aload_n (pc := 2) 0 dX12_thingOf_2 rfl ?_
  refine s_iload_n (pc := 3) 1 dX12_thingOf_3 rfl ?_
  refine s_iload_n (pc := 4) 2 dX12_thingOf_4 rfl ?_
  refine s_callV (M := MX12_thingOf) (As := [.int v1, .int v3]) (st := []) (Ψ := fun (x : Int32) => (some (.int x), rH mo h s)) cv_X12_239 (by decide) (pc := 5) dX12_thingOf_5 r_0 (r_lt (k := 0) hh (by decide)) rfl (Nat.le_of_ble_eq_true rfl) (fun x hx => pX12_kind_ok hh s v1 v3 x hx) rfl (fun x1 _ => ?_)
  refine s_if_eq (tgt := 26) (pc := 8) dX12_thingOf_8 (by decide) (fun _ => ?_) (fun _ => ?_)
  · refine s_sub [2] rfl ?_
    exact s_ev (fun _ _ q => q)
  · refine s_aload_n (pc := 11) 0 dX12_thingOf_11 rfl ?_
    refine rg_35 hh (pc := 12) dX12_thingOf_12 rfl ?_
    refine s_iload_n (pc := 15) 1 dX12_thingOf_15 rfl ?_
    refine s_bipush (v := 50) (pc := 16) dX12_thingOf_16 (by decide) ?_
    refine s_iadd (pc := 18) dX12_thingOf_18 ?_
    refine s_iload_n (pc := 19) 2 dX12_thingOf_19 rfl ?_
    refine s_iadd (pc := 20) dX12_thingOf_20 ?_
    refine rl_4 hh (pc := 21) dX12_thingOf_21 ?_
    refine s_istore_nT (lv' := fun x2 => [(3, .int x2), (0, .ref mo), (1, .int v1)]) (pc := 22) dX12_thingOf_22 (by decide) (fun _ => rfl) (fun x2 => ?_)
    refine s_goto (tgt := 2) (pc := 23) dX12_thingOf_23 (by decide) ?_
    refine s_sub [1, 2, 0] rfl ?_
    exact s_ev (fun _ _ q => q)
def pX12_thingOf (s : RS) (a0 : Int32) (a1 : Int32) : Option Int32 :=
  (a_loop (fun (q : Int32) => X12_thingOf_b2 a0 q s) FU a1).bind fun (t3 : Int32) =>
    some t3
theorem pX12_thingOf_w (hh : mo + 18 ≤ h.2.1) (s : RS) (a0 : Int32) (a1 : Int32) : aS l 1 MX12_thingOf n0 S0 (oΦ (fun (x : Int32) => (some (.int x), rH mo h s))) 0 [(0, .ref mo), (1, .int a0), (2, .int a1)] [] (rH mo h s) (pX12_thingOf s a0 a1) := by
  unfold pX12_thingOf
  refine s_iload_n (pc := 0) 2 dX12_thingOf_0 rfl ?_
  refine s_istore_n (lv' := [(3, .int a1), (0, .ref mo), (1, .int a0), (2, .int a1)]) (pc := 1) dX12_thingOf_1 (by decide) rfl ?_
  refine s_bind (Ψ := X12_thingOf_x2 l n0 S0 mo h a0 s) ?_ ?_
  · refine s_sub [1, 2, 0] rfl ?_
    exact s_loop (lvf := fun (q : Int32) => [(0, .ref mo), (1, .int a0), (3, .int q)]) (stf := fun _ => []) (hf := fun (q : Int32) => rH mo h s) (fun q => X12_thingOf_b2_ok hh a0 q s) FU a1
  · intro t3 z r h' hz hr
    refine (?_ : aS l 1 MX12_thingOf n0 S0 (oΦ (fun (x : Int32) => (some (.int x), rH mo h s))) 26 [(3, .int t3)] [] (rH mo h s) _) z hz r h' hr
    refine s_iload_n (pc := 26) 0 dX12_thingOf_26 rfl ?_
    exact s_iret (pc := 27) dX12_thingOf_27 rfl (fun _ _ q => q)
theorem pX12_thingOf_ok (hh : mo + 18 ≤ h.2.1) (s : RS) (a0 : Int32) (a1 : Int32) : ∀ x, pX12_thingOf s a0 a1 = some x → aMet l 1 yX12_thingOf cX12_thingOf 4 (some .int) [.ref mo, .int a0, .int a1] (rH mo h s) (some (.int x)) (rH mo h s) := fun x hx => a_meth (ini := false) (y := yX12_thingOf) (by decide +kernel) (fun q => by cases q) (fun _ => Nat.le_of_ble_eq_true rfl) (pX12_thingOf_w hh s a0 a1) x hx _ _ ⟨rfl, rfl⟩
end
section
variable {l : Launch} {n0 S0 : Nat} {mo : Nat} {h : aH}
abbrev MX12_fight : aM := (cX12_fight, RX12, 2, (some .boolean), false)
def X12_fight_j35 (v0 : Int32) (v1 : Int32) : Option Bool :=
  if v1 = (1 : Int32) then
    if v0 = (2 : Int32) then
      some true
    else
      if v0 = (3 : Int32) then
        some true
      else
        some false
  else
    some false
theorem X12_fight_j35_ok (v0 : Int32) (v1 : Int32) : aS l 0 MX12_fight n0 S0 (oΦ (fun (x : Bool) => (some (.int (b2i x)), h))) 35 [(0, .int v0), (1, .int v1)] [] h (X12_fight_j35 v0 v1) := by
  unfold X12_fight_j35
  refine s_iload_n (pc := 35) 1 dX12_fight_35 rfl ?_
  refine s_iconst (v := 1) (pc := 36) dX12_fight_36 (by decide) ?_
  refine s_icmp_ne (tgt := 54) (pc := 37) dX12_fight_37 (by decide) (fun _ => ?_) (fun _ => ?_)
  · refine s_iload_n (pc := 40) 0 dX12_fight_40 rfl ?_
    refine s_iconst (v := 2) (pc := 41) dX12_fight_41 (by decide) ?_
    refine s_icmp_eq (tgt := 50) (pc := 42) dX12_fight_42 (by decide) (fun _ => ?_) (fun _ => ?_)
    · refine s_iconst (v := 1) (pc := 50) dX12_fight_50 (by decide) ?_
      refine s_goto (tgt := 55) (pc := 51) dX12_fight_51 (by decide) ?_
      exact s_zretB (b := true) (pc := 55) dX12_fight_55 rfl (fun _ _ q => q)
    · refine s_iload_n (pc := 45) 0 dX12_fight_45 rfl ?_
      refine s_iconst (v := 3) (pc := 46) dX12_fight_46 (by decide) ?_
      refine s_icmp_ne (tgt := 54) (pc := 47) dX12_fight_47 (by decide) (fun _ => ?_) (fun _ => ?_)
      · refine s_iconst (v := 1) (pc := 50) dX12_fight_50 (by decide) ?_
        refine s_goto (tgt := 55) (pc := 51) dX12_fight_51 (by decide) ?_
        exact s_zretB (b := true) (pc := 55) dX12_fight_55 rfl (fun _ _ q => q)
      · refine s_iconst (v := 0) (pc := 54) dX12_fight_54 (by decide) ?_
        exact s_zretB (b := false) (pc := 55) dX12_fight_55 rfl (fun _ _ q => q)
  · refine s_iconst (v := 0) (pc := 54) dX12_fight_54 (by decide) ?_
    exact s_zretB (b := false) (pc := 55) dX12_fight_55 rfl (fun _ _ q => q)
def X12_fight_j20 (v0 : Int32) (v1 : Int32) : Option Bool :=
  if v0 = (1 : Int32) then
    if v1 = (2 : Int32) then
      some true
    else
      if v1 = (3 : Int32) then
        some true
      else
        X12_fight_j35 v0 v1
  else
    X12_fight_j35 v0 v1
theorem X12_fight_j20_ok (v0 : Int32) (v1 : Int32) : aS l 0 MX12_fight n0 S0 (oΦ (fun (x : Bool) => (some (.int (b2i x)), h))) 20 [(0, .int v0), (1, .int v1)] [] h (X12_fight_j20 v0 v1) := by
  unfold X12_fight_j20
  refine s_iload_n (pc := 20) 0 dX12_fight_20 rfl ?_
  refine s_iconst (v := 1) (pc := 21) dX12_fight_21 (by decide) ?_
  refine s_icmp_ne (tgt := 35) (pc := 22) dX12_fight_22 (by decide) (fun _ => ?_) (fun _ => ?_)
  · refine s_iload_n (pc := 25) 1 dX12_fight_25 rfl ?_
    refine s_iconst (v := 2) (pc := 26) dX12_fight_26 (by decide) ?_
    refine s_icmp_eq (tgt := 50) (pc := 27) dX12_fight_27 (by decide) (fun _ => ?_) (fun _ => ?_)
    · refine s_iconst (v := 1) (pc := 50) dX12_fight_50 (by decide) ?_
      refine s_goto (tgt := 55) (pc := 51) dX12_fight_51 (by decide) ?_
      exact s_zretB (b := true) (pc := 55) dX12_fight_55 rfl (fun _ _ q => q)
    · refine s_iload_n (pc := 30) 1 dX12_fight_30 rfl ?_
      refine s_iconst (v := 3) (pc := 31) dX12_fight_31 (by decide) ?_
      refine s_icmp_eq (tgt := 50) (pc := 32) dX12_fight_32 (by decide) (fun _ => ?_) (fun _ => ?_)
      · refine s_iconst (v := 1) (pc := 50) dX12_fight_50 (by decide) ?_
        refine s_goto (tgt := 55) (pc := 51) dX12_fight_51 (by decide) ?_
        exact s_zretB (b := true) (pc := 55) dX12_fight_55 rfl (fun _ _ q => q)
      · exact X12_fight_j35_ok  v0 v1
  · exact X12_fight_j35_ok  v0 v1
def X12_fight_j10 (v0 : Int32) (v1 : Int32) : Option Bool :=
  if v0 = (3 : Int32) then
    if v1 = (3 : Int32) then
      some true
    else
      X12_fight_j20 v0 v1
  else
    X12_fight_j20 v0 v1
theorem X12_fight_j10_ok (v0 : Int32) (v1 : Int32) : aS l 0 MX12_fight n0 S0 (oΦ (fun (x : Bool) => (some (.int (b2i x)), h))) 10 [(0, .int v0), (1, .int v1)] [] h (X12_fight_j10 v0 v1) := by
  unfold X12_fight_j10
  refine s_iload_n (pc := 10) 0 dX12_fight_10 rfl ?_
  refine s_iconst (v := 3) (pc := 11) dX12_fight_11 (by decide) ?_
  refine s_icmp_ne (tgt := 20) (pc := 12) dX12_fight_12 (by decide) (fun _ => ?_) (fun _ => ?_)
  · refine s_iload_n (pc := 15) 1 dX12_fight_15 rfl ?_
    refine s_iconst (v := 3) (pc := 16) dX12_fight_16 (by decide) ?_
    refine s_icmp_eq (tgt := 50) (pc := 17) dX12_fight_17 (by decide) (fun _ => ?_) (fun _ => ?_)
    · refine s_iconst (v := 1) (pc := 50) dX12_fight_50 (by decide) ?_
      refine s_goto (tgt := 55) (pc := 51) dX12_fight_51 (by decide) ?_
      exact s_zretB (b := true) (pc := 55) dX12_fight_55 rfl (fun _ _ q => q)
    · exact X12_fight_j20_ok  v0 v1
  · exact X12_fight_j20_ok  v0 v1
def pX12_fight (a0 : Int32) (a1 : Int32) : Option Bool :=
  if a0 = (2 : Int32) then
    if a1 = (2 : Int32) then
      some true
    else
      X12_fight_j10 a0 a1
  else
    X12_fight_j10 a0 a1
theorem pX12_fight_w (a0 : Int32) (a1 : Int32) : aS l 0 MX12_fight n0 S0 (oΦ (fun (x : Bool) => (some (.int (b2i x)), h))) 0 [(0, .int a0), (1, .int a1)] [] h (pX12_fight a0 a1) := by
  unfold pX12_fight
  refine s_iload_n (pc := 0) 0 dX12_fight_0 rfl ?_
  refine s_iconst (v := 2) (pc := 1) dX12_fight_1 (by decide) ?_
  refine s_icmp_ne (tgt := 10) (pc := 2) dX12_fight_2 (by decide) (fun _ => ?_) (fun _ => ?_)
  · refine s_iload_n (pc := 5) 1 dX12_fight_5 rfl ?_
    refine s_iconst (v := 2) (pc := 6) dX12_fight_6 (by decide) ?_
    refine s_icmp_eq (tgt := 50) (pc := 7) dX12_fight_7 (by decide) (fun _ => ?_) (fun _ => ?_)
    · refine s_iconst (v := 1) (pc := 50) dX12_fight_50 (by decide) ?_
      refine s_goto (tgt := 55) (pc := 51) dX12_fight_51 (by decide) ?_
      exact s_zretB (b := true) (pc := 55) dX12_fight_55 rfl (fun _ _ q => q)
    · exact X12_fight_j10_ok  a0 a1
  · exact X12_fight_j10_ok  a0 a1
theorem pX12_fight_ok (a0 : Int32) (a1 : Int32) : ∀ x, pX12_fight a0 a1 = some x → aMet l 0 yX12_fight cX12_fight 2 (some .boolean) [.int a0, .int a1] h (some (.int (b2i x))) h := fun x hx => a_meth (ini := false) (y := yX12_fight) (by decide +kernel) (fun q => by cases q) (fun _ => Nat.le_of_ble_eq_true rfl) (pX12_fight_w a0 a1) x hx _ _ ⟨rfl, rfl⟩
end
section
variable {l : Launch} {n0 S0 : Nat} {mo : Nat} {h : aH}
abbrev MX12_wouldQuarrel : aM := (cX12_wouldQuarrel, RX12, 4, (some .boolean), false)
def pX12_wouldQuarrel (s : RS) (a0 : Int32) (a1 : Int32) (a2 : Int32) : Option Bool :=
  if a1 = a2 then
    some false
  else
    (pX12_kind s a0 a1).bind fun x1 =>
    (pX12_kind s a0 a2).bind fun x2 =>
    (pX12_fight x1 x2).bind fun x3 =>
    if x3 = true then
      (pX12_thingOf s a0 a1).bind fun x4 =>
      (pX12_thingOf s a0 a2).bind fun x5 =>
      if x4 = x5 then
        (pX12_hangsOn s a0 a1).bind fun x6 =>
        if ((x6 >>> (a2 &&& 31)) &&& (1 : Int32)) = 0 then
          (pX12_hangsOn s a0 a2).bind fun x7 =>
          if ((x7 >>> (a1 &&& 31)) &&& (1 : Int32)) = 0 then
            some true
          else
            some false
        else
          some false
      else
        some false
    else
      some false
theorem pX12_wouldQuarrel_w (hh : mo + 18 ≤ h.2.1) (s : RS) (a0 : Int32) (a1 : Int32) (a2 : Int32) : aS l 2 MX12_wouldQuarrel n0 S0 (oΦ (fun (x : Bool) => (some (.int (b2i x)), rH mo h s))) 0 [(0, .ref mo), (1, .int a0), (2, .int a1), (3, .int a2)] [] (rH mo h s) (pX12_wouldQuarrel s a0 a1 a2) := by
  unfold pX12_wouldQuarrel
  refine s_iload_n (pc := 0) 2 dX12_wouldQuarrel_0 rfl ?_
  refine s_iload_n (pc := 1) 3 dX12_wouldQuarrel_1 rfl ?_
  refine s_icmp_eq (tgt := 38) (pc := 2) dX12_wouldQuarrel_2 (by decide) (fun _ => ?_) (fun _ => ?_)
  · refine s_iconst (v := 0) (pc := 38) dX12_wouldQuarrel_38 (by decide) ?_
    exact s_zretB (b := false) (pc := 39) dX12_wouldQuarrel_39 rfl (fun _ _ q => q)
  · refine s_aload_n (pc := 5) 0 dX12_wouldQuarrel_5 rfl ?_
    refine s_iload_n (pc := 6) 1 dX12_wouldQuarrel_6 rfl ?_
    refine s_iload_n (pc := 7) 2 dX12_wouldQuarrel_7 rfl ?_
    refine s_callV (M := MX12_wouldQuarrel) (As := [.int a0, .int a1]) (st := []) (Ψ := fun (x : Int32) => (some (.int x), rH mo h s)) cv_X12_239 (by decide) (pc := 8) dX12_wouldQuarrel_8 r_0 (r_lt (k := 0) hh (by decide)) rfl (Nat.le_of_ble_eq_true rfl) (fun x hx => pX12_kind_ok hh s a0 a1 x hx) rfl (fun x1 _ => ?_)
    refine s_aload_n (pc := 11) 0 dX12_wouldQuarrel_11 rfl ?_
    refine s_iload_n (pc := 12) 1 dX12_wouldQuarrel_12 rfl ?_
    refine s_iload_n (pc := 13) 3 dX12_wouldQuarrel_13 rfl ?_
    refine s_callV (M := MX12_wouldQuarrel) (As := [.int a0, .int a2]) (st := [.int x1]) (Ψ := fun (x : Int32) => (some (.int x), rH mo h s)) cv_X12_239 (by decide) (pc := 14) dX12_wouldQuarrel_14 r_0 (r_lt (k := 0) hh (by decide)) rfl (Nat.le_of_ble_eq_true rfl) (fun x hx => pX12_kind_ok hh s a0 a2 x hx) rfl (fun x2 _ => ?_)
    refine s_callS (M := MX12_wouldQuarrel) (As := [.int x1, .int x2]) (st := []) (Ψ := fun (x : Bool) => (some (.int (b2i x)), rH mo h s)) cs_X12_242 (by decide) (pc := 17) dX12_wouldQuarrel_17 rfl (Nat.le_of_ble_eq_true rfl) (fun x hx => pX12_fight_ok x1 x2 x hx) rfl (fun x3 _ => ?_)
    refine s_if_eqB (tgt := 38) (pc := 20) dX12_wouldQuarrel_20 (by decide) (fun _ => ?_) (fun _ => ?_)
    · refine s_aload_n (pc := 23) 0 dX12_wouldQuarrel_23 rfl ?_
      refine s_iload_n (pc := 24) 1 dX12_wouldQuarrel_24 rfl ?_
      refine s_iload_n (pc := 25) 2 dX12_wouldQuarrel_25 rfl ?_
      refine s_callV (M := MX12_wouldQuarrel) (As := [.int a0, .int a1]) (st := []) (Ψ := fun (x : Int32) => (some (.int x), rH mo h s)) cv_X12_246 (by decide) (pc := 26) dX12_wouldQuarrel_26 r_0 (r_lt (k := 0) hh (by decide)) rfl (Nat.le_of_ble_eq_true rfl) (fun x hx => pX12_thingOf_ok hh s a0 a1 x hx) rfl (fun x4 _ => ?_)
      refine s_aload_n (pc := 29) 0 dX12_wouldQuarrel_29 rfl ?_
      refine s_iload_n (pc := 30) 1 dX12_wouldQuarrel_30 rfl ?_
      refine s_iload_n (pc := 31) 3 dX12_wouldQuarrel_31 rfl ?_
      refine s_callV (M := MX12_wouldQuarrel) (As := [.int a0, .int a2]) (st := [.int x4]) (Ψ := fun (x : Int32) => (some (.int x), rH mo h s)) cv_X12_246 (by decide) (pc := 32) dX12_wouldQuarrel_32 r_0 (r_lt (k := 0) hh (by decide)) rfl (Nat.le_of_ble_eq_true rfl) (fun x hx => pX12_thingOf_ok hh s a0 a2 x hx) rfl (fun x5 _ => ?_)
      refine s_icmp_eq (tgt := 40) (pc := 35) dX12_wouldQuarrel_35 (by decide) (fun _ => ?_) (fun _ => ?_)
      · refine s_aload_n (pc := 40) 0 dX12_wouldQuarrel_40 rfl ?_
        refine s_iload_n (pc := 41) 1 dX12_wouldQuarrel_41 rfl ?_
        refine s_iload_n (pc := 42) 2 dX12_wouldQuarrel_42 rfl ?_
        refine s_callV (M := MX12_wouldQuarrel) (As := [.int a0, .int a1]) (st := []) (Ψ := fun (x : Int32) => (some (.int x), rH mo h s)) cv_X12_249 (by decide) (pc := 43) dX12_wouldQuarrel_43 r_0 (r_lt (k := 0) hh (by decide)) rfl (Nat.le_of_ble_eq_true rfl) (fun x hx => pX12_hangsOn_ok hh s a0 a1 x hx) rfl (fun x6 _ => ?_)
        refine s_iload_n (pc := 46) 3 dX12_wouldQuarrel_46 rfl ?_
        refine s_ishr (pc := 47) dX12_wouldQuarrel_47 ?_
        refine s_iconst (v := 1) (pc := 48) dX12_wouldQuarrel_48 (by decide) ?_
        refine s_iand (pc := 49) dX12_wouldQuarrel_49 ?_
        refine s_if_ne (tgt := 70) (pc := 50) dX12_wouldQuarrel_50 (by decide) (fun _ => ?_) (fun _ => ?_)
        · refine s_aload_n (pc := 53) 0 dX12_wouldQuarrel_53 rfl ?_
          refine s_iload_n (pc := 54) 1 dX12_wouldQuarrel_54 rfl ?_
          refine s_iload_n (pc := 55) 3 dX12_wouldQuarrel_55 rfl ?_
          refine s_callV (M := MX12_wouldQuarrel) (As := [.int a0, .int a2]) (st := []) (Ψ := fun (x : Int32) => (some (.int x), rH mo h s)) cv_X12_249 (by decide) (pc := 56) dX12_wouldQuarrel_56 r_0 (r_lt (k := 0) hh (by decide)) rfl (Nat.le_of_ble_eq_true rfl) (fun x hx => pX12_hangsOn_ok hh s a0 a2 x hx) rfl (fun x7 _ => ?_)
          refine s_iload_n (pc := 59) 2 dX12_wouldQuarrel_59 rfl ?_
          refine s_ishr (pc := 60) dX12_wouldQuarrel_60 ?_
          refine s_iconst (v := 1) (pc := 61) dX12_wouldQuarrel_61 (by decide) ?_
          refine s_iand (pc := 62) dX12_wouldQuarrel_62 ?_
          refine s_if_ne (tgt := 70) (pc := 63) dX12_wouldQuarrel_63 (by decide) (fun _ => ?_) (fun _ => ?_)
          · refine s_iconst (v := 1) (pc := 66) dX12_wouldQuarrel_66 (by decide) ?_
            refine s_goto (tgt := 71) (pc := 67) dX12_wouldQuarrel_67 (by decide) ?_
            exact s_zretB (b := true) (pc := 71) dX12_wouldQuarrel_71 rfl (fun _ _ q => q)
          · refine s_iconst (v := 0) (pc := 70) dX12_wouldQuarrel_70 (by decide) ?_
            exact s_zretB (b := false) (pc := 71) dX12_wouldQuarrel_71 rfl (fun _ _ q => q)
        · refine s_iconst (v := 0) (pc := 70) dX12_wouldQuarrel_70 (by decide) ?_
          exact s_zretB (b := false) (pc := 71) dX12_wouldQuarrel_71 rfl (fun _ _ q => q)
      · refine s_iconst (v := 0) (pc := 38) dX12_wouldQuarrel_38 (by decide) ?_
        exact s_zretB (b := false) (pc := 39) dX12_wouldQuarrel_39 rfl (fun _ _ q => q)
    · refine s_iconst (v := 0) (pc := 38) dX12_wouldQuarrel_38 (by decide) ?_
      exact s_zretB (b := false) (pc := 39) dX12_wouldQuarrel_39 rfl (fun _ _ q => q)
theorem pX12_wouldQuarrel_ok (hh : mo + 18 ≤ h.2.1) (s : RS) (a0 : Int32) (a1 : Int32) (a2 : Int32) : ∀ x, pX12_wouldQuarrel s a0 a1 a2 = some x → aMet l 2 yX12_wouldQuarrel cX12_wouldQuarrel 4 (some .boolean) [.ref mo, .int a0, .int a1, .int a2] (rH mo h s) (some (.int (b2i x))) (rH mo h s) := fun x hx => a_meth (ini := false) (y := yX12_wouldQuarrel) (by decide +kernel) (fun q => by cases q) (fun _ => Nat.le_of_ble_eq_true rfl) (pX12_wouldQuarrel_w hh s a0 a1 a2) x hx _ _ ⟨rfl, rfl⟩
end
section
variable {l : Launch} {n0 S0 : Nat} {mo : Nat} {h : aH}
abbrev MX12_readOf : aM := (cX12_readOf, RX12, 2, (some .int), false)
def X12_readOf_j53 (v1 : Int32) (s : RS) : Option (Int32 × RS) :=
  (pX12_must s true).bind fun x4 =>
  some (v1, x4)
theorem X12_readOf_j53_ok (hh : mo + 18 ≤ h.2.1) (v1 : Int32) (s : RS) : aS l 5 MX12_readOf n0 S0 (oΦ (fun (x : Int32 × RS) => (some (.int x.1), rH mo h x.2))) 53 [(0, .ref mo), (1, .int v1)] [] (rH mo h s) (X12_readOf_j53 v1 s) := by
  unfold X12_readOf_j53
  refine s_aload_n (pc := 53) 0 dX12_readOf_53 rfl ?_
  refine s_iconst (v := 1) (pc := 54) dX12_readOf_54 (by decide) ?_
  refine s_callV (M := MX12_readOf) (As := [.int 1]) (st := []) (Ψ := fun (x : RS) => (none, rH mo h x)) cv_X12_252 (by decide) (pc := 55) dX12_readOf_55 r_0 (r_lt (k := 0) hh (by decide)) rfl (Nat.le_of_ble_eq_true rfl) (fun x hx => pX12_must_ok hh s true x hx) rfl (fun x4 _ => ?_)
  refine s_iload_n (pc := 58) 1 dX12_readOf_58 rfl ?_
  exact s_iret (pc := 59) dX12_readOf_59 rfl (fun _ _ q => q)
def X12_readOf_j44 (v1 : Int32) (s : RS) : Option (Int32 × RS) :=
  (pX12_fail s (5 : Int32) (s.1 15)).bind fun x6 =>
  X12_readOf_j53 v1 x6
theorem X12_readOf_j44_ok (hh : mo + 18 ≤ h.2.1) (v1 : Int32) (s : RS) : aS l 5 MX12_readOf n0 S0 (oΦ (fun (x : Int32 × RS) => (some (.int x.1), rH mo h x.2))) 44 [(0, .ref mo), (1, .int v1)] [] (rH mo h s) (X12_readOf_j44 v1 s) := by
  unfold X12_readOf_j44
  refine s_aload_n (pc := 44) 0 dX12_readOf_44 rfl ?_
  refine s_iconst (v := 5) (pc := 45) dX12_readOf_45 (by decide) ?_
  refine s_aload_n (pc := 46) 0 dX12_readOf_46 rfl ?_
  refine rg_120 hh (pc := 47) dX12_readOf_47 rfl ?_
  refine s_callV (M := MX12_readOf) (As := [.int 5, .int (s.1 15)]) (st := []) (Ψ := fun (x : RS) => (none, rH mo h x)) cv_X12_215 (by decide) (pc := 50) dX12_readOf_50 r_0 (r_lt (k := 0) hh (by decide)) rfl (Nat.le_of_ble_eq_true rfl) (fun x hx => pX12_fail_ok hh s (5 : Int32) (s.1 15) x hx) rfl (fun x6 _ => ?_)
  exact X12_readOf_j53_ok hh v1 x6
def pX12_readOf (s : RS) : Option (Int32 × RS) :=
  (pX12_isOf s).bind fun x1 =>
  (pX12_must s x1).bind fun x2 =>
  (pX12_readTold x2).bind fun x3 =>
  if (x3.2.1 12) = 0 then
    (pX12_kind x3.2 (1440 : Int32) x3.1).bind fun x5 =>
    if x5 = (1 : Int32) then
      X12_readOf_j44 x3.1 x3.2
    else
      (pX12_kind x3.2 (1440 : Int32) x3.1).bind fun x7 =>
      if x7 = (4 : Int32) then
        X12_readOf_j44 x3.1 x3.2
      else
        X12_readOf_j53 x3.1 x3.2
  else
    X12_readOf_j53 x3.1 x3.2
theorem pX12_readOf_w (hh : mo + 18 ≤ h.2.1) (s : RS) : aS l 5 MX12_readOf n0 S0 (oΦ (fun (x : Int32 × RS) => (some (.int x.1), rH mo h x.2))) 0 [(0, .ref mo)] [] (rH mo h s) (pX12_readOf s) := by
  unfold pX12_readOf
  refine s_aload_n (pc := 0) 0 dX12_readOf_0 rfl ?_
  refine s_aload_n (pc := 1) 0 dX12_readOf_1 rfl ?_
  refine s_callV (M := MX12_readOf) (As := []) (st := [.ref mo]) (Ψ := fun (x : Bool) => (some (.int (b2i x)), rH mo h s)) cv_X12_170 (by decide) (pc := 2) dX12_readOf_2 r_0 (r_lt (k := 0) hh (by decide)) rfl (Nat.le_of_ble_eq_true rfl) (fun x hx => pX12_isOf_ok hh s x hx) rfl (fun x1 _ => ?_)
  refine s_callV (M := MX12_readOf) (As := [.int (b2i x1)]) (st := []) (Ψ := fun (x : RS) => (none, rH mo h x)) cv_X12_252 (by decide) (pc := 5) dX12_readOf_5 r_0 (r_lt (k := 0) hh (by decide)) rfl (Nat.le_of_ble_eq_true rfl) (fun x hx => pX12_must_ok hh s x1 x hx) rfl (fun x2 _ => ?_)
  refine s_aload_n (pc := 8) 0 dX12_readOf_8 rfl ?_
  refine s_callV (M := MX12_readOf) (As := []) (st := []) (Ψ := fun (x : Int32 × RS) => (some (.int x.1), rH mo h x.2)) cv_X12_256 (by decide) (pc := 9) dX12_readOf_9 r_0 (r_lt (k := 0) hh (by decide)) rfl (Nat.le_of_ble_eq_true rfl) (fun x hx => pX12_readTold_ok hh x2 x hx) rfl (fun x3 _ => ?_)
  refine s_istore_n (lv' := [(1, .int x3.1), (0, .ref mo)]) (pc := 12) dX12_readOf_12 (by decide) rfl ?_
  refine s_aload_n (pc := 13) 1 dX12_readOf_13 rfl ?_
  refine rg_209 hh (pc := 14) dX12_readOf_14 rfl ?_
  refine s_if_ne (tgt := 53) (pc := 17) dX12_readOf_17 (by decide) (fun _ => ?_) (fun _ => ?_)
  · refine s_aload_n (pc := 20) 1 dX12_readOf_20 rfl ?_
    refine s_sipush (v := 1440) (pc := 21) dX12_readOf_21 (by decide) ?_
    refine s_iload_n (pc := 24) 0 dX12_readOf_24 rfl ?_
    refine s_callV (M := MX12_readOf) (As := [.int 1440, .int x3.1]) (st := []) (Ψ := fun (x : Int32) => (some (.int x), rH mo h x3.2)) cv_X12_239 (by decide) (pc := 25) dX12_readOf_25 r_0 (r_lt (k := 0) hh (by decide)) rfl (Nat.le_of_ble_eq_true rfl) (fun x hx => pX12_kind_ok hh x3.2 (1440 : Int32) x3.1 x hx) rfl (fun x5 _ => ?_)
    refine s_iconst (v := 1) (pc := 28) dX12_readOf_28 (by decide) ?_
    refine s_icmp_eq (tgt := 44) (pc := 29) dX12_readOf_29 (by decide) (fun _ => ?_) (fun _ => ?_)
    · refine s_sub [1, 0] rfl ?_
      exact X12_readOf_j44_ok hh x3.1 x3.2
    · refine s_aload_n (pc := 32) 1 dX12_readOf_32 rfl ?_
      refine s_sipush (v := 1440) (pc := 33) dX12_readOf_33 (by decide) ?_
      refine s_iload_n (pc := 36) 0 dX12_readOf_36 rfl ?_
      refine s_callV (M := MX12_readOf) (As := [.int 1440, .int x3.1]) (st := []) (Ψ := fun (x : Int32) => (some (.int x), rH mo h x3.2)) cv_X12_239 (by decide) (pc := 37) dX12_readOf_37 r_0 (r_lt (k := 0) hh (by decide)) rfl (Nat.le_of_ble_eq_true rfl) (fun x hx => pX12_kind_ok hh x3.2 (1440 : Int32) x3.1 x hx) rfl (fun x7 _ => ?_)
      refine s_iconst (v := 4) (pc := 40) dX12_readOf_40 (by decide) ?_
      refine s_icmp_ne (tgt := 53) (pc := 41) dX12_readOf_41 (by decide) (fun _ => ?_) (fun _ => ?_)
      · refine s_sub [1, 0] rfl ?_
        exact X12_readOf_j44_ok hh x3.1 x3.2
      · refine s_sub [1, 0] rfl ?_
        exact X12_readOf_j53_ok hh x3.1 x3.2
  · refine s_sub [1, 0] rfl ?_
    exact X12_readOf_j53_ok hh x3.1 x3.2
theorem pX12_readOf_ok (hh : mo + 18 ≤ h.2.1) (s : RS) : ∀ x, pX12_readOf s = some x → aMet l 5 yX12_readOf cX12_readOf 2 (some .int) [.ref mo] (rH mo h s) (some (.int x.1)) (rH mo h x.2) := fun x hx => a_meth (ini := false) (y := yX12_readOf) (by decide +kernel) (fun q => by cases q) (fun _ => Nat.le_of_ble_eq_true rfl) (pX12_readOf_w hh s) x hx _ _ ⟨rfl, rfl⟩
end
