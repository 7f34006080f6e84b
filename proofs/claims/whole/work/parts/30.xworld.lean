/-! THE CLASS: regions. class, base, what its references hold (by field), its state (ints and longs by field, rows by the field that holds them) -/
abbrev XR : Type := Nat × Nat × (Nat → Option Nat) × RS
def xF0 (b : Nat) (f : Nat → Option Nat) (s : RS) : List Value := [.int (s.1 0), .int (s.1 1), .ref (b + 1), .ref (b + 2), .ref (b + 3), .ref (b + 4), .ref (b + 5), .ref (b + 6), .ref (b + 7), .ref (b + 8), .ref (b + 9), .ref (b + 10), .ref (b + 11), .ref (b + 12), .ref (b + 13), .int (s.1 15)]
def xC0 (b : Nat) (f : Nat → Option Nat) (s : RS) (o : Nat) : Option aC := match o with
  | 0 => some (.inr (0, xF0 b f s))
  | 1 => some (.inl (1, 4, .inr (.inl (s.2.2.2 2))))
  | 2 => some (.inl (1, 16, .inr (.inl (s.2.2.2 3))))
  | 3 => some (.inl (0, 16, .inl (s.2.2.1 4)))
  | 4 => some (.inl (0, 16, .inl (s.2.2.1 5)))
  | 5 => some (.inl (0, 16, .inl (s.2.2.1 6)))
  | 6 => some (.inl (0, 16, .inl (s.2.2.1 7)))
  | 7 => some (.inl (0, 16, .inl (s.2.2.1 8)))
  | 8 => some (.inl (0, 16, .inl (s.2.2.1 9)))
  | 9 => some (.inl (0, 16, .inl (s.2.2.1 10)))
  | 10 => some (.inl (0, 16, .inl (s.2.2.1 11)))
  | 11 => some (.inl (0, 16, .inl (s.2.2.1 12)))
  | 12 => some (.inl (0, 16, .inl (s.2.2.1 13)))
  | 13 => some (.inl (0, 16, .inl (s.2.2.1 14)))
  | _ => none
def xD0 (o : Nat) : Bool := match o with
  | 0 => true
  | 1 => true
  | 2 => true
  | 3 => true
  | 4 => true
  | 5 => true
  | 6 => true
  | 7 => true
  | 8 => true
  | 9 => true
  | 10 => true
  | 11 => true
  | 12 => true
  | 13 => true
  | _ => false
def xF1 (b : Nat) (f : Nat → Option Nat) (s : RS) : List Value := [a_rf (f 0), a_rf (f 1)]
def xC1 (b : Nat) (f : Nat → Option Nat) (s : RS) (o : Nat) : Option aC := match o with
  | 0 => some (.inr (1, xF1 b f s))
  | _ => none
def xD1 (o : Nat) : Bool := match o with
  | 0 => true
  | _ => false
def xF2 (b : Nat) (f : Nat → Option Nat) (s : RS) : List Value := [.int (s.1 0), .ref (b + 1), .ref (b + 2), .ref (b + 3)]
def xC2 (b : Nat) (f : Nat → Option Nat) (s : RS) (o : Nat) : Option aC := match o with
  | 0 => some (.inr (2, xF2 b f s))
  | 1 => some (.inl (0, 16, .inl (s.2.2.1 1)))
  | 2 => some (.inl (0, 16, .inl (s.2.2.1 2)))
  | 3 => some (.inl (0, 16, .inl (s.2.2.1 3)))
  | _ => none
def xD2 (o : Nat) : Bool := match o with
  | 0 => true
  | 1 => true
  | 2 => true
  | 3 => true
  | _ => false
def xF3 (b : Nat) (f : Nat → Option Nat) (s : RS) : List Value := [.int (s.1 0), .int (s.1 1), .ref (b + 1), .ref (b + 2), .ref (b + 3), .ref (b + 4), .ref (b + 5), .ref (b + 6)]
def xC3 (b : Nat) (f : Nat → Option Nat) (s : RS) (o : Nat) : Option aC := match o with
  | 0 => some (.inr (3, xF3 b f s))
  | 1 => some (.inl (0, 60, .inl (s.2.2.1 2)))
  | 2 => some (.inl (0, 60, .inl (s.2.2.1 3)))
  | 3 => some (.inl (0, 60, .inl (s.2.2.1 4)))
  | 4 => some (.inl (0, 60, .inl (s.2.2.1 5)))
  | 5 => some (.inl (3, 60, .inl (s.2.2.1 6)))
  | 6 => some (.inl (0, 60, .inl (s.2.2.1 7)))
  | _ => none
def xD3 (o : Nat) : Bool := match o with
  | 0 => true
  | 1 => true
  | 2 => true
  | 3 => true
  | 4 => true
  | 5 => true
  | 6 => true
  | _ => false
def xF4 (b : Nat) (f : Nat → Option Nat) (s : RS) : List Value := [a_rf (f 0), a_rf (f 1), a_rf (f 2), .ref (b + 8), .int (s.1 4)]
def xC4 (b : Nat) (f : Nat → Option Nat) (s : RS) (o : Nat) : Option aC := match o with
  | 0 => some (.inr (4, xF4 b f s))
  | 8 => some (.inl (0, 3, .inl (s.2.2.1 3)))
  | _ => none
def xD4 (o : Nat) : Bool := match o with
  | 0 => true
  | 8 => true
  | _ => false
def xF5 (b : Nat) (f : Nat → Option Nat) (s : RS) : List Value := [a_rf (f 0), .int (s.1 1), .int (s.1 2), .int (s.1 3), .int (s.1 4), a_rf (f 5)]
def xC5 (b : Nat) (f : Nat → Option Nat) (s : RS) (o : Nat) : Option aC := match o with
  | 0 => some (.inr (5, xF5 b f s))
  | _ => none
def xD5 (o : Nat) : Bool := match o with
  | 0 => true
  | _ => false
def xF6 (b : Nat) (f : Nat → Option Nat) (s : RS) : List Value := [a_rf (f 0), .int (s.1 1), .int (s.1 2)]
def xC6 (b : Nat) (f : Nat → Option Nat) (s : RS) (o : Nat) : Option aC := match o with
  | 0 => some (.inr (6, xF6 b f s))
  | _ => none
def xD6 (o : Nat) : Bool := match o with
  | 0 => true
  | _ => false
def xF7 (b : Nat) (f : Nat → Option Nat) (s : RS) : List Value := [a_rf (f 0), a_rf (f 1), .ref (b + 15), .ref (b + 16), .int (s.1 4)]
def xC7 (b : Nat) (f : Nat → Option Nat) (s : RS) (o : Nat) : Option aC := match o with
  | 0 => some (.inr (7, xF7 b f s))
  | 15 => some (.inl (0, 4, .inl (s.2.2.1 2)))
  | 16 => some (.inl (0, 16, .inl (s.2.2.1 3)))
  | _ => none
def xD7 (o : Nat) : Bool := match o with
  | 0 => true
  | 15 => true
  | 16 => true
  | _ => false
def xF8 (b : Nat) (f : Nat → Option Nat) (s : RS) : List Value := [.ref (b + 1), .ref (b + 2), .int (s.1 2), .int (s.1 3), .int (s.1 4), .int (s.1 5), .ref (b + 3), .ref (b + 4), .ref (b + 5), .int (s.1 9), .int (s.1 10)]
def xC8 (b : Nat) (f : Nat → Option Nat) (s : RS) (o : Nat) : Option aC := match o with
  | 0 => some (.inr (8, xF8 b f s))
  | 1 => some (.inl (2, 900, .inl (s.2.2.1 0)))
  | 2 => some (.inl (1, 28, .inr (.inl (s.2.2.2 1))))
  | 3 => some (.inl (0, 901, .inl (s.2.2.1 6)))
  | 4 => some (.inl (0, 901, .inl (s.2.2.1 7)))
  | 5 => some (.inl (1, 901, .inr (.inl (s.2.2.2 8))))
  | _ => none
def xD8 (o : Nat) : Bool := match o with
  | 0 => true
  | 1 => true
  | 2 => true
  | 3 => true
  | 4 => true
  | 5 => true
  | _ => false
def xF9 (b : Nat) (f : Nat → Option Nat) (s : RS) : List Value := [.ref (b + 1), .int (s.1 1), .int (s.1 2)]
def xC9 (b : Nat) (f : Nat → Option Nat) (s : RS) (o : Nat) : Option aC := match o with
  | 0 => some (.inr (9, xF9 b f s))
  | 1 => some (.inl (1, 60, .inr (.inl (s.2.2.2 0))))
  | _ => none
def xD9 (o : Nat) : Bool := match o with
  | 0 => true
  | 1 => true
  | _ => false
def xF10 (b : Nat) (f : Nat → Option Nat) (s : RS) : List Value := [.ref (b + 1), .int (s.1 1), .int (s.1 2), .int (s.1 3), .int (s.1 4), .int (s.1 5), .int (s.1 6), a_rf (f 7), a_rf (f 8), .int (s.1 9), .int (s.1 10), .ref (b + 23), .ref (b + 24), .ref (b + 25), .ref (b + 26), .ref (b + 27)]
def xC10 (b : Nat) (f : Nat → Option Nat) (s : RS) (o : Nat) : Option aC := match o with
  | 0 => some (.inr (10, xF10 b f s))
  | 1 => some (.inl (0, 4, .inl (s.2.2.1 0)))
  | 23 => some (.inl (0, 20, .inl (s.2.2.1 11)))
  | 24 => some (.inl (0, 20, .inl (s.2.2.1 12)))
  | 25 => some (.inl (0, 20, .inl (s.2.2.1 13)))
  | 26 => some (.inl (0, 20, .inl (s.2.2.1 14)))
  | 27 => some (.inl (0, 60, .inl (s.2.2.1 15)))
  | _ => none
def xD10 (o : Nat) : Bool := match o with
  | 0 => true
  | 1 => true
  | 23 => true
  | 24 => true
  | 25 => true
  | 26 => true
  | 27 => true
  | _ => false
def xF11 (b : Nat) (f : Nat → Option Nat) (s : RS) : List Value := [.ref (b + 1), .ref (b + 2), .ref (b + 8), .ref (b + 25), .ref (b + 26), .ref (b + 30), .ref (b + 34), .ref (b + 50), .ref (b + 78), .int (s.1 9), .int (s.1 10), .int (s.1 11), .long (s.2.1 12), .long (s.2.1 13)]
def xC11 (b : Nat) (f : Nat → Option Nat) (s : RS) (o : Nat) : Option aC := match o with
  | 0 => some (.inr (11, xF11 b f s))
  | 1 => some (.inl (4, 4, .inr (.inr (.inr (.inr (fun j => if j < 4 then some (b + 79 + 2 * j) else none))))))
  | 25 => some (.inl (5, 3, .inr (.inr (.inr (.inr (fun j => if j < 3 then some (b + 87 + 17 * j) else none))))))
  | 78 => some (.inl (0, 5, .inl (s.2.2.1 8)))
  | _ => none
def xD11 (o : Nat) : Bool := match o with
  | 0 => true
  | 1 => true
  | 25 => true
  | 78 => true
  | _ => false
def xC12 (s : RS) (o : Nat) : Option aC := match o with
  | 0 => some (.inl (1, (s.1 0).toNatClampNeg, .inr (.inl (s.2.2.2 0))))
  | _ => none
def xD12 (o : Nat) : Bool := match o with
  | 0 => true
  | _ => false
def xC13 (b : Nat) (s : RS) (o : Nat) : Option aC := if o < 18 then some (rC b s o) else none
def xD13 (o : Nat) : Bool := decide (o < 18)
def xC (c b : Nat) (f : Nat → Option Nat) (s : RS) (o : Nat) : Option aC := match c with
  | 0 => xC0 b f s o
  | 1 => xC1 b f s o
  | 2 => xC2 b f s o
  | 3 => xC3 b f s o
  | 4 => xC4 b f s o
  | 5 => xC5 b f s o
  | 6 => xC6 b f s o
  | 7 => xC7 b f s o
  | 8 => xC8 b f s o
  | 9 => xC9 b f s o
  | 10 => xC10 b f s o
  | 11 => xC11 b f s o
  | 12 => xC12 s o
  | 13 => xC13 b s o
  | _ => none
def xD (c o : Nat) : Bool := match c with
  | 0 => xD0 o
  | 1 => xD1 o
  | 2 => xD2 o
  | 3 => xD3 o
  | 4 => xD4 o
  | 5 => xD5 o
  | 6 => xD6 o
  | 7 => xD7 o
  | 8 => xD8 o
  | 9 => xD9 o
  | 10 => xD10 o
  | 11 => xD11 o
  | 12 => xD12 o
  | 13 => xD13 o
  | _ => false
theorem xd0 (b : Nat) (f : Nat → Option Nat) (s : RS) (o : Nat) : (xC0 b f s o).isSome = xD0 o := by unfold xC0 xD0; split <;> rfl
theorem xd1 (b : Nat) (f : Nat → Option Nat) (s : RS) (o : Nat) : (xC1 b f s o).isSome = xD1 o := by unfold xC1 xD1; split <;> rfl
theorem xd2 (b : Nat) (f : Nat → Option Nat) (s : RS) (o : Nat) : (xC2 b f s o).isSome = xD2 o := by unfold xC2 xD2; split <;> rfl
theorem xd3 (b : Nat) (f : Nat → Option Nat) (s : RS) (o : Nat) : (xC3 b f s o).isSome = xD3 o := by unfold xC3 xD3; split <;> rfl
theorem xd4 (b : Nat) (f : Nat → Option Nat) (s : RS) (o : Nat) : (xC4 b f s o).isSome = xD4 o := by unfold xC4 xD4; split <;> rfl
theorem xd5 (b : Nat) (f : Nat → Option Nat) (s : RS) (o : Nat) : (xC5 b f s o).isSome = xD5 o := by unfold xC5 xD5; split <;> rfl
theorem xd6 (b : Nat) (f : Nat → Option Nat) (s : RS) (o : Nat) : (xC6 b f s o).isSome = xD6 o := by unfold xC6 xD6; split <;> rfl
theorem xd7 (b : Nat) (f : Nat → Option Nat) (s : RS) (o : Nat) : (xC7 b f s o).isSome = xD7 o := by unfold xC7 xD7; split <;> rfl
theorem xd8 (b : Nat) (f : Nat → Option Nat) (s : RS) (o : Nat) : (xC8 b f s o).isSome = xD8 o := by unfold xC8 xD8; split <;> rfl
theorem xd9 (b : Nat) (f : Nat → Option Nat) (s : RS) (o : Nat) : (xC9 b f s o).isSome = xD9 o := by unfold xC9 xD9; split <;> rfl
theorem xd10 (b : Nat) (f : Nat → Option Nat) (s : RS) (o : Nat) : (xC10 b f s o).isSome = xD10 o := by unfold xC10 xD10; split <;> rfl
theorem xd11 (b : Nat) (f : Nat → Option Nat) (s : RS) (o : Nat) : (xC11 b f s o).isSome = xD11 o := by unfold xC11 xD11; split <;> rfl
theorem xd12 (s : RS) (o : Nat) : (xC12 s o).isSome = xD12 o := by unfold xC12 xD12; split <;> rfl
theorem xd13 (b : Nat) (s : RS) (o : Nat) : (xC13 b s o).isSome = xD13 o := by
  unfold xC13 xD13
  by_cases h : o < 18
  · rw [if_pos h, decide_eq_true h]; rfl
  · rw [if_neg h, decide_eq_false h]; rfl
theorem xd (c b : Nat) (f : Nat → Option Nat) (s : RS) (o : Nat) : (xC c b f s o).isSome = xD c o := by
  unfold xC xD
  split
  · exact xd0 b f s o
  · exact xd1 b f s o
  · exact xd2 b f s o
  · exact xd3 b f s o
  · exact xd4 b f s o
  · exact xd5 b f s o
  · exact xd6 b f s o
  · exact xd7 b f s o
  · exact xd8 b f s o
  · exact xd9 b f s o
  · exact xd10 b f s o
  · exact xd11 b f s o
  · exact xd12 s o
  · exact xd13 b s o
  · rfl
def oH (r : XR) (h : aH) : aH := (fun i => if r.2.1 ≤ i then (xC r.1 r.2.1 r.2.2.1 r.2.2.2 (i - r.2.1)).getD (h.1 i) else h.1 i, h.2)
def xw : List XR → aH → aH
  | [], h => h
  | r :: L, h => oH r (xw L h)
abbrev xk (r : XR) : Nat × Nat := (r.1, r.2.1)
/-- the regions are apart, and below n -/
def xok (l : List (Nat × Nat)) (n : Nat) : Prop := (∀ (i j : Nat) (p q : Nat × Nat), l[i]? = some p → l[j]? = some q → i ≠ j → ∀ o o', xD p.1 o = true → xD q.1 o' = true → p.2 + o ≠ q.2 + o') ∧ ∀ (i : Nat) (p : Nat × Nat), l[i]? = some p → ∀ o, xD p.1 o = true → p.2 + o < n
theorem xw_2 : ∀ (L : List XR) (h : aH), (xw L h).2 = h.2
  | [], _ => rfl
  | _ :: L, h => xw_2 L h
theorem xok_tl {p : Nat × Nat} {l : List (Nat × Nat)} {n : Nat} (ho : xok (p :: l) n) : xok l n :=
  ⟨fun i j a b h1 h2 h3 => ho.1 (i + 1) (j + 1) a b h1 h2 (fun e => h3 (Nat.succ.inj e)), fun i a h1 => ho.2 (i + 1) a h1⟩
theorem xok_sub {l l' : List (Nat × Nat)} {n : Nat} (ho : xok l n) (js : List Nat) (hj : js.map (fun j => l[j]?) = l'.map some) (hn : js.Nodup) : xok l' n := by
  have key : ∀ (i : Nat) (p : Nat × Nat), l'[i]? = some p → ∃ j, js[i]? = some j ∧ l[j]? = some p := by
    intro i p hp
    have h1 : (js.map (fun j => l[j]?))[i]? = some (some p) := by rw [hj, List.getElem?_map, hp]; rfl
    rw [List.getElem?_map] at h1
    cases hi : js[i]? with
    | none => rw [hi] at h1; cases h1
    | some j => rw [hi] at h1; exact ⟨j, rfl, Option.some.inj h1⟩
  refine ⟨fun i j p q hp hq hij => ?_, fun i p hp => ?_⟩
  · obtain ⟨a, ha, hpa⟩ := key i p hp
    obtain ⟨b, hb, hqb⟩ := key j q hq
    refine ho.1 a b p q hpa hqb (fun e => ?_)
    subst e
    have h1 : i < js.length := (List.getElem?_eq_some_iff.mp ha).1
    exact hij ((List.getElem?_inj h1 hn).mp (ha.trans hb.symm))
  · obtain ⟨a, ha, hpa⟩ := key i p hp
    exact ho.2 a p hpa
/-- a region's cell, in the world -/
theorem xw_at : ∀ {L : List XR} {h : aH} {n j c b : Nat} {f : Nat → Option Nat} {s : RS} {o : Nat} {x : aC}, xok (L.map xk) n → L[j]? = some (c, b, f, s) → xC c b f s o = some x → (xw L h).1 (b + o) = x
  | [], _, _, _, _, _, _, _, _, _, _, hj, _ => by simp at hj
  | r :: L, h, n, 0, c, b, f, s, o, x, ho, hj, hx => by
    have e : r = (c, b, f, s) := by simpa using hj
    subst e
    show (if b ≤ b + o then (xC c b f s (b + o - b)).getD _ else _) = x
    rw [if_pos (Nat.le_add_right b o), Nat.add_sub_cancel_left, hx]
    rfl
  | r :: L, h, n, j + 1, c, b, f, s, o, x, ho, hj, hx => by
    have hj' : L[j]? = some (c, b, f, s) := by simpa using hj
    have ih := xw_at (h := h) (xok_tl ho) hj' hx
    show (if r.2.1 ≤ b + o then (xC r.1 r.2.1 r.2.2.1 r.2.2.2 (b + o - r.2.1)).getD ((xw L h).1 (b + o)) else (xw L h).1 (b + o)) = x
    by_cases hb : r.2.1 ≤ b + o
    · rw [if_pos hb]
      have hn : xC r.1 r.2.1 r.2.2.1 r.2.2.2 (b + o - r.2.1) = none := by
        cases hq : xC r.1 r.2.1 r.2.2.1 r.2.2.2 (b + o - r.2.1) with
        | none => rfl
        | some y =>
          exfalso
          have d1 : xD r.1 (b + o - r.2.1) = true := by rw [← xd r.1 r.2.1 r.2.2.1 r.2.2.2, hq]; rfl
          have d2 : xD c o = true := by rw [← xd c b f s, hx]; rfl
          have k2 : ((r :: L).map xk)[j + 1]? = some (c, b) := by
            show (L.map xk)[j]? = some (c, b)
            rw [List.getElem?_map, hj']; rfl
          exact ho.1 0 (j + 1) (xk r) (c, b) rfl k2 (by omega) _ _ d1 d2 (by show r.2.1 + _ = b + o; omega)
      rw [hn]
      exact ih
    · rw [if_neg hb]
      exact ih
theorem xw_lt {L : List XR} {h : aH} {j c b : Nat} {f : Nat → Option Nat} {s : RS} {o : Nat} (ho : xok (L.map xk) h.2.1) (hj : L[j]? = some (c, b, f, s)) (hd : xD c o = true) : b + o < (xw L h).2.1 := by
  rw [xw_2]
  exact ho.2 j (c, b) (by rw [List.getElem?_map, hj]; rfl) o hd
/-- a region laid over the world takes the place of its like there -/
theorem xov : ∀ {L : List XR} {h : aH} {n j : Nat} {r q : XR}, xok (L.map xk) n → L[j]? = some q → xk r = xk q → oH r (xw L h) = xw (L.set j r) h
  | [], _, _, _, _, _, _, hj, _ => by simp at hj
  | p :: L, h, n, 0, r, q, ho, hj, hk => by
    have e : p = q := by simpa using hj
    subst e
    obtain ⟨c, b, f, s⟩ := p
    obtain ⟨c', b', f', s'⟩ := r
    cases hk
    refine Prod.ext (funext fun i => ?_) rfl
    show (if b ≤ i then (xC c b f' s' (i - b)).getD (if b ≤ i then (xC c b f s (i - b)).getD ((xw L h).1 i) else (xw L h).1 i) else (if b ≤ i then (xC c b f s (i - b)).getD ((xw L h).1 i) else (xw L h).1 i)) = if b ≤ i then (xC c b f' s' (i - b)).getD ((xw L h).1 i) else (xw L h).1 i
    by_cases hb : b ≤ i
    · simp only [if_pos hb]
      cases hq : xC c b f' s' (i - b) with
      | some y => rfl
      | none =>
        have d1 : xD c (i - b) = false := by rw [← xd c b f' s', hq]; rfl
        cases hz : xC c b f s (i - b) with
        | none => rfl
        | some y =>
          have d2 : xD c (i - b) = true := by rw [← xd c b f s, hz]; rfl
          rw [d1] at d2; cases d2
    · simp only [if_neg hb]
  | p :: L, h, n, j + 1, r, q, ho, hj, hk => by
    have hj' : L[j]? = some q := by simpa using hj
    have ih := xov (h := h) (r := r) (xok_tl ho) hj' hk
    show oH r (oH p (xw L h)) = oH p (xw (L.set j r) h)
    rw [← ih]
    refine Prod.ext (funext fun i => ?_) rfl
    obtain ⟨c, b, f, s⟩ := p
    obtain ⟨c', b', f', s'⟩ := r
    show (if b' ≤ i then (xC c' b' f' s' (i - b')).getD (if b ≤ i then (xC c b f s (i - b)).getD ((xw L h).1 i) else (xw L h).1 i) else (if b ≤ i then (xC c b f s (i - b)).getD ((xw L h).1 i) else (xw L h).1 i))
      = (if b ≤ i then (xC c b f s (i - b)).getD (if b' ≤ i then (xC c' b' f' s' (i - b')).getD ((xw L h).1 i) else (xw L h).1 i) else (if b' ≤ i then (xC c' b' f' s' (i - b')).getD ((xw L h).1 i) else (xw L h).1 i))
    by_cases hb : b ≤ i
    · by_cases hb' : b' ≤ i
      · simp only [if_pos hb, if_pos hb']
        cases hz : xC c b f s (i - b) with
        | none => rfl
        | some y =>
          cases hz' : xC c' b' f' s' (i - b') with
          | none => rfl
          | some y' =>
            exfalso
            have d1 : xD c (i - b) = true := by rw [← xd c b f s, hz]; rfl
            have d2 : xD c' (i - b') = true := by rw [← xd c' b' f' s', hz']; rfl
            have k2 : (((c, b, f, s) :: L).map xk)[j + 1]? = some (c', b') := by
              show (L.map xk)[j]? = some (c', b')
              rw [List.getElem?_map, hj']
              show some (xk q) = _
              rw [← hk]
            exact ho.1 0 (j + 1) (c, b) (c', b') rfl k2 (by omega) _ _ d1 d2 (by show b + _ = b' + _; omega)
      · simp only [if_pos hb, if_neg hb']
    · by_cases hb' : b' ≤ i
      · simp only [if_neg hb, if_pos hb']
      · simp only [if_neg hb, if_neg hb']
def xmt (L : List XR) : List (Nat × XR) → Prop
  | [] => True
  | q :: rs => (L.map xk)[q.1]? = some (xk q.2) ∧ xmt L rs
theorem xmt_set {L : List XR} {j : Nat} {r : XR} (hk : (L.map xk)[j]? = some (xk r)) : (L.set j r).map xk = L.map xk := by
  rw [List.map_set]
  apply List.ext_getElem?
  intro i
  rw [List.getElem?_set]
  by_cases e : j = i
  · subst e
    have hl : j < (L.map xk).length := (List.getElem?_eq_some_iff.mp hk).1
    rw [if_pos rfl, if_pos hl, hk]
  · rw [if_neg e]
theorem xovs : ∀ {L : List XR} {h : aH} {n : Nat} (rs : List (Nat × XR)), xok (L.map xk) n → xmt L rs → xw (rs.map (fun q => q.2)) (xw L h) = xw (rs.foldr (fun q K => K.set q.1 q.2) L) h ∧ (rs.foldr (fun q K => K.set q.1 q.2) L).map xk = L.map xk
  | _, _, _, [], _, _ => ⟨rfl, rfl⟩
  | L, h, n, q :: rs, ho, hm => by
    obtain ⟨ih, ihk⟩ := xovs (h := h) rs ho hm.2
    have hm1 := hm.1
    rw [← ihk] at hm1
    refine ⟨?_, by rw [← ihk]; exact xmt_set hm1⟩
    show oH q.2 (xw (rs.map (fun q => q.2)) (xw L h)) = _
    rw [ih]
    rw [List.getElem?_map] at hm1
    cases hz : (rs.foldr (fun q K => K.set q.1 q.2) L)[q.1]? with
    | none => rw [hz] at hm1; cases hm1
    | some y =>
      rw [hz] at hm1
      exact xov (n := n) (by rw [ihk]; exact ho) hz (Option.some.inj hm1).symm
/-- a cell of a region is written -/
theorem xw_up {L : List XR} {h : aH} {j c b : Nat} {f f' : Nat → Option Nat} {s s' : RS} {o : Nat} {x : aC} (ho : xok (L.map xk) h.2.1) (hj : L[j]? = some (c, b, f, s)) (hx : xC c b f' s' o = some x) (hu : ∀ i, i ≠ o → xC c b f' s' i = xC c b f s i) : a_up (xw L h) (b + o) x = xw (L.set j (c, b, f', s')) h := by
  rw [← xov (h := h) ho hj (r := (c, b, f', s')) rfl]
  refine Prod.ext (funext fun i => ?_) rfl
  show (if i = b + o then x else (xw L h).1 i) = if b ≤ i then (xC c b f' s' (i - b)).getD ((xw L h).1 i) else (xw L h).1 i
  by_cases e : i = b + o
  · subst e
    rw [if_pos rfl, if_pos (Nat.le_add_right b o), Nat.add_sub_cancel_left, hx]; rfl
  · rw [if_neg e]
    by_cases hb : b ≤ i
    · rw [if_pos hb, hu (i - b) (by omega)]
      cases hz : xC c b f s (i - b) with
      | none => rfl
      | some y =>
        have := xw_at (h := h) ho hj hz
        rw [show b + (i - b) = i by omega] at this
        rw [this]; rfl
    · rw [if_neg hb]
theorem xu0_I {b : Nat} {f : Nat → Option Nat} {s : RS} {k : Nat} {v : Int32} : ∀ i, i ≠ 0 → xC 0 b f (uI s k v) i = xC 0 b f s i := fun i hi => by
  show xC0 b f (uI s k v) i = xC0 b f s i
  unfold xC0
  split <;> first | rfl | exact absurd rfl hi
theorem xu0_L {b : Nat} {f : Nat → Option Nat} {s : RS} {k : Nat} {v : Int64} : ∀ i, i ≠ 0 → xC 0 b f (uL s k v) i = xC 0 b f s i := fun i hi => by
  show xC0 b f (uL s k v) i = xC0 b f s i
  unfold xC0
  split <;> first | rfl | exact absurd rfl hi
theorem xu0_R {b : Nat} {f f' : Nat → Option Nat} {s : RS} : ∀ i, i ≠ 0 → xC 0 b f' s i = xC 0 b f s i := fun i hi => by
  show xC0 b f' s i = xC0 b f s i
  unfold xC0
  split <;> first | rfl | exact absurd rfl hi
theorem xu0_2 {b : Nat} {f : Nat → Option Nat} {s : RS} {g : Nat → Int64} : ∀ i, i ≠ 1 → xC 0 b f (uB s 2 g) i = xC 0 b f s i := fun i hi => by
  show xC0 b f (uB s 2 g) i = xC0 b f s i
  unfold xC0
  split <;> first | rfl | exact absurd rfl hi
theorem xu0_3 {b : Nat} {f : Nat → Option Nat} {s : RS} {g : Nat → Int64} : ∀ i, i ≠ 2 → xC 0 b f (uB s 3 g) i = xC 0 b f s i := fun i hi => by
  show xC0 b f (uB s 3 g) i = xC0 b f s i
  unfold xC0
  split <;> first | rfl | exact absurd rfl hi
theorem xu0_4 {b : Nat} {f : Nat → Option Nat} {s : RS} {g : Nat → Int32} : ∀ i, i ≠ 3 → xC 0 b f (uA s 4 g) i = xC 0 b f s i := fun i hi => by
  show xC0 b f (uA s 4 g) i = xC0 b f s i
  unfold xC0
  split <;> first | rfl | exact absurd rfl hi
theorem xu0_5 {b : Nat} {f : Nat → Option Nat} {s : RS} {g : Nat → Int32} : ∀ i, i ≠ 4 → xC 0 b f (uA s 5 g) i = xC 0 b f s i := fun i hi => by
  show xC0 b f (uA s 5 g) i = xC0 b f s i
  unfold xC0
  split <;> first | rfl | exact absurd rfl hi
theorem xu0_6 {b : Nat} {f : Nat → Option Nat} {s : RS} {g : Nat → Int32} : ∀ i, i ≠ 5 → xC 0 b f (uA s 6 g) i = xC 0 b f s i := fun i hi => by
  show xC0 b f (uA s 6 g) i = xC0 b f s i
  unfold xC0
  split <;> first | rfl | exact absurd rfl hi
theorem xu0_7 {b : Nat} {f : Nat → Option Nat} {s : RS} {g : Nat → Int32} : ∀ i, i ≠ 6 → xC 0 b f (uA s 7 g) i = xC 0 b f s i := fun i hi => by
  show xC0 b f (uA s 7 g) i = xC0 b f s i
  unfold xC0
  split <;> first | rfl | exact absurd rfl hi
theorem xu0_8 {b : Nat} {f : Nat → Option Nat} {s : RS} {g : Nat → Int32} : ∀ i, i ≠ 7 → xC 0 b f (uA s 8 g) i = xC 0 b f s i := fun i hi => by
  show xC0 b f (uA s 8 g) i = xC0 b f s i
  unfold xC0
  split <;> first | rfl | exact absurd rfl hi
theorem xu0_9 {b : Nat} {f : Nat → Option Nat} {s : RS} {g : Nat → Int32} : ∀ i, i ≠ 8 → xC 0 b f (uA s 9 g) i = xC 0 b f s i := fun i hi => by
  show xC0 b f (uA s 9 g) i = xC0 b f s i
  unfold xC0
  split <;> first | rfl | exact absurd rfl hi
theorem xu0_10 {b : Nat} {f : Nat → Option Nat} {s : RS} {g : Nat → Int32} : ∀ i, i ≠ 9 → xC 0 b f (uA s 10 g) i = xC 0 b f s i := fun i hi => by
  show xC0 b f (uA s 10 g) i = xC0 b f s i
  unfold xC0
  split <;> first | rfl | exact absurd rfl hi
theorem xu0_11 {b : Nat} {f : Nat → Option Nat} {s : RS} {g : Nat → Int32} : ∀ i, i ≠ 10 → xC 0 b f (uA s 11 g) i = xC 0 b f s i := fun i hi => by
  show xC0 b f (uA s 11 g) i = xC0 b f s i
  unfold xC0
  split <;> first | rfl | exact absurd rfl hi
theorem xu0_12 {b : Nat} {f : Nat → Option Nat} {s : RS} {g : Nat → Int32} : ∀ i, i ≠ 11 → xC 0 b f (uA s 12 g) i = xC 0 b f s i := fun i hi => by
  show xC0 b f (uA s 12 g) i = xC0 b f s i
  unfold xC0
  split <;> first | rfl | exact absurd rfl hi
theorem xu0_13 {b : Nat} {f : Nat → Option Nat} {s : RS} {g : Nat → Int32} : ∀ i, i ≠ 12 → xC 0 b f (uA s 13 g) i = xC 0 b f s i := fun i hi => by
  show xC0 b f (uA s 13 g) i = xC0 b f s i
  unfold xC0
  split <;> first | rfl | exact absurd rfl hi
theorem xu0_14 {b : Nat} {f : Nat → Option Nat} {s : RS} {g : Nat → Int32} : ∀ i, i ≠ 13 → xC 0 b f (uA s 14 g) i = xC 0 b f s i := fun i hi => by
  show xC0 b f (uA s 14 g) i = xC0 b f s i
  unfold xC0
  split <;> first | rfl | exact absurd rfl hi
theorem xu1_I {b : Nat} {f : Nat → Option Nat} {s : RS} {k : Nat} {v : Int32} : ∀ i, i ≠ 0 → xC 1 b f (uI s k v) i = xC 1 b f s i := fun i hi => by
  show xC1 b f (uI s k v) i = xC1 b f s i
  unfold xC1
  split <;> first | rfl | exact absurd rfl hi
theorem xu1_L {b : Nat} {f : Nat → Option Nat} {s : RS} {k : Nat} {v : Int64} : ∀ i, i ≠ 0 → xC 1 b f (uL s k v) i = xC 1 b f s i := fun i hi => by
  show xC1 b f (uL s k v) i = xC1 b f s i
  unfold xC1
  split <;> first | rfl | exact absurd rfl hi
theorem xu1_R {b : Nat} {f f' : Nat → Option Nat} {s : RS} : ∀ i, i ≠ 0 → xC 1 b f' s i = xC 1 b f s i := fun i hi => by
  show xC1 b f' s i = xC1 b f s i
  unfold xC1
  split <;> first | rfl | exact absurd rfl hi
theorem xu2_I {b : Nat} {f : Nat → Option Nat} {s : RS} {k : Nat} {v : Int32} : ∀ i, i ≠ 0 → xC 2 b f (uI s k v) i = xC 2 b f s i := fun i hi => by
  show xC2 b f (uI s k v) i = xC2 b f s i
  unfold xC2
  split <;> first | rfl | exact absurd rfl hi
theorem xu2_L {b : Nat} {f : Nat → Option Nat} {s : RS} {k : Nat} {v : Int64} : ∀ i, i ≠ 0 → xC 2 b f (uL s k v) i = xC 2 b f s i := fun i hi => by
  show xC2 b f (uL s k v) i = xC2 b f s i
  unfold xC2
  split <;> first | rfl | exact absurd rfl hi
theorem xu2_R {b : Nat} {f f' : Nat → Option Nat} {s : RS} : ∀ i, i ≠ 0 → xC 2 b f' s i = xC 2 b f s i := fun i hi => by
  show xC2 b f' s i = xC2 b f s i
  unfold xC2
  split <;> first | rfl | exact absurd rfl hi
theorem xu2_1 {b : Nat} {f : Nat → Option Nat} {s : RS} {g : Nat → Int32} : ∀ i, i ≠ 1 → xC 2 b f (uA s 1 g) i = xC 2 b f s i := fun i hi => by
  show xC2 b f (uA s 1 g) i = xC2 b f s i
  unfold xC2
  split <;> first | rfl | exact absurd rfl hi
theorem xu2_2 {b : Nat} {f : Nat → Option Nat} {s : RS} {g : Nat → Int32} : ∀ i, i ≠ 2 → xC 2 b f (uA s 2 g) i = xC 2 b f s i := fun i hi => by
  show xC2 b f (uA s 2 g) i = xC2 b f s i
  unfold xC2
  split <;> first | rfl | exact absurd rfl hi
theorem xu2_3 {b : Nat} {f : Nat → Option Nat} {s : RS} {g : Nat → Int32} : ∀ i, i ≠ 3 → xC 2 b f (uA s 3 g) i = xC 2 b f s i := fun i hi => by
  show xC2 b f (uA s 3 g) i = xC2 b f s i
  unfold xC2
  split <;> first | rfl | exact absurd rfl hi
theorem xu3_I {b : Nat} {f : Nat → Option Nat} {s : RS} {k : Nat} {v : Int32} : ∀ i, i ≠ 0 → xC 3 b f (uI s k v) i = xC 3 b f s i := fun i hi => by
  show xC3 b f (uI s k v) i = xC3 b f s i
  unfold xC3
  split <;> first | rfl | exact absurd rfl hi
theorem xu3_L {b : Nat} {f : Nat → Option Nat} {s : RS} {k : Nat} {v : Int64} : ∀ i, i ≠ 0 → xC 3 b f (uL s k v) i = xC 3 b f s i := fun i hi => by
  show xC3 b f (uL s k v) i = xC3 b f s i
  unfold xC3
  split <;> first | rfl | exact absurd rfl hi
theorem xu3_R {b : Nat} {f f' : Nat → Option Nat} {s : RS} : ∀ i, i ≠ 0 → xC 3 b f' s i = xC 3 b f s i := fun i hi => by
  show xC3 b f' s i = xC3 b f s i
  unfold xC3
  split <;> first | rfl | exact absurd rfl hi
theorem xu3_2 {b : Nat} {f : Nat → Option Nat} {s : RS} {g : Nat → Int32} : ∀ i, i ≠ 1 → xC 3 b f (uA s 2 g) i = xC 3 b f s i := fun i hi => by
  show xC3 b f (uA s 2 g) i = xC3 b f s i
  unfold xC3
  split <;> first | rfl | exact absurd rfl hi
theorem xu3_3 {b : Nat} {f : Nat → Option Nat} {s : RS} {g : Nat → Int32} : ∀ i, i ≠ 2 → xC 3 b f (uA s 3 g) i = xC 3 b f s i := fun i hi => by
  show xC3 b f (uA s 3 g) i = xC3 b f s i
  unfold xC3
  split <;> first | rfl | exact absurd rfl hi
theorem xu3_4 {b : Nat} {f : Nat → Option Nat} {s : RS} {g : Nat → Int32} : ∀ i, i ≠ 3 → xC 3 b f (uA s 4 g) i = xC 3 b f s i := fun i hi => by
  show xC3 b f (uA s 4 g) i = xC3 b f s i
  unfold xC3
  split <;> first | rfl | exact absurd rfl hi
theorem xu3_5 {b : Nat} {f : Nat → Option Nat} {s : RS} {g : Nat → Int32} : ∀ i, i ≠ 4 → xC 3 b f (uA s 5 g) i = xC 3 b f s i := fun i hi => by
  show xC3 b f (uA s 5 g) i = xC3 b f s i
  unfold xC3
  split <;> first | rfl | exact absurd rfl hi
theorem xu3_6 {b : Nat} {f : Nat → Option Nat} {s : RS} {g : Nat → Int32} : ∀ i, i ≠ 5 → xC 3 b f (uA s 6 g) i = xC 3 b f s i := fun i hi => by
  show xC3 b f (uA s 6 g) i = xC3 b f s i
  unfold xC3
  split <;> first | rfl | exact absurd rfl hi
theorem xu3_7 {b : Nat} {f : Nat → Option Nat} {s : RS} {g : Nat → Int32} : ∀ i, i ≠ 6 → xC 3 b f (uA s 7 g) i = xC 3 b f s i := fun i hi => by
  show xC3 b f (uA s 7 g) i = xC3 b f s i
  unfold xC3
  split <;> first | rfl | exact absurd rfl hi
theorem xu4_I {b : Nat} {f : Nat → Option Nat} {s : RS} {k : Nat} {v : Int32} : ∀ i, i ≠ 0 → xC 4 b f (uI s k v) i = xC 4 b f s i := fun i hi => by
  show xC4 b f (uI s k v) i = xC4 b f s i
  unfold xC4
  split <;> first | rfl | exact absurd rfl hi
theorem xu4_L {b : Nat} {f : Nat → Option Nat} {s : RS} {k : Nat} {v : Int64} : ∀ i, i ≠ 0 → xC 4 b f (uL s k v) i = xC 4 b f s i := fun i hi => by
  show xC4 b f (uL s k v) i = xC4 b f s i
  unfold xC4
  split <;> first | rfl | exact absurd rfl hi
theorem xu4_R {b : Nat} {f f' : Nat → Option Nat} {s : RS} : ∀ i, i ≠ 0 → xC 4 b f' s i = xC 4 b f s i := fun i hi => by
  show xC4 b f' s i = xC4 b f s i
  unfold xC4
  split <;> first | rfl | exact absurd rfl hi
theorem xu4_3 {b : Nat} {f : Nat → Option Nat} {s : RS} {g : Nat → Int32} : ∀ i, i ≠ 8 → xC 4 b f (uA s 3 g) i = xC 4 b f s i := fun i hi => by
  show xC4 b f (uA s 3 g) i = xC4 b f s i
  unfold xC4
  split <;> first | rfl | exact absurd rfl hi
theorem xu5_I {b : Nat} {f : Nat → Option Nat} {s : RS} {k : Nat} {v : Int32} : ∀ i, i ≠ 0 → xC 5 b f (uI s k v) i = xC 5 b f s i := fun i hi => by
  show xC5 b f (uI s k v) i = xC5 b f s i
  unfold xC5
  split <;> first | rfl | exact absurd rfl hi
theorem xu5_L {b : Nat} {f : Nat → Option Nat} {s : RS} {k : Nat} {v : Int64} : ∀ i, i ≠ 0 → xC 5 b f (uL s k v) i = xC 5 b f s i := fun i hi => by
  show xC5 b f (uL s k v) i = xC5 b f s i
  unfold xC5
  split <;> first | rfl | exact absurd rfl hi
theorem xu5_R {b : Nat} {f f' : Nat → Option Nat} {s : RS} : ∀ i, i ≠ 0 → xC 5 b f' s i = xC 5 b f s i := fun i hi => by
  show xC5 b f' s i = xC5 b f s i
  unfold xC5
  split <;> first | rfl | exact absurd rfl hi
theorem xu6_I {b : Nat} {f : Nat → Option Nat} {s : RS} {k : Nat} {v : Int32} : ∀ i, i ≠ 0 → xC 6 b f (uI s k v) i = xC 6 b f s i := fun i hi => by
  show xC6 b f (uI s k v) i = xC6 b f s i
  unfold xC6
  split <;> first | rfl | exact absurd rfl hi
theorem xu6_L {b : Nat} {f : Nat → Option Nat} {s : RS} {k : Nat} {v : Int64} : ∀ i, i ≠ 0 → xC 6 b f (uL s k v) i = xC 6 b f s i := fun i hi => by
  show xC6 b f (uL s k v) i = xC6 b f s i
  unfold xC6
  split <;> first | rfl | exact absurd rfl hi
theorem xu6_R {b : Nat} {f f' : Nat → Option Nat} {s : RS} : ∀ i, i ≠ 0 → xC 6 b f' s i = xC 6 b f s i := fun i hi => by
  show xC6 b f' s i = xC6 b f s i
  unfold xC6
  split <;> first | rfl | exact absurd rfl hi
theorem xu7_I {b : Nat} {f : Nat → Option Nat} {s : RS} {k : Nat} {v : Int32} : ∀ i, i ≠ 0 → xC 7 b f (uI s k v) i = xC 7 b f s i := fun i hi => by
  show xC7 b f (uI s k v) i = xC7 b f s i
  unfold xC7
  split <;> first | rfl | exact absurd rfl hi
theorem xu7_L {b : Nat} {f : Nat → Option Nat} {s : RS} {k : Nat} {v : Int64} : ∀ i, i ≠ 0 → xC 7 b f (uL s k v) i = xC 7 b f s i := fun i hi => by
  show xC7 b f (uL s k v) i = xC7 b f s i
  unfold xC7
  split <;> first | rfl | exact absurd rfl hi
theorem xu7_R {b : Nat} {f f' : Nat → Option Nat} {s : RS} : ∀ i, i ≠ 0 → xC 7 b f' s i = xC 7 b f s i := fun i hi => by
  show xC7 b f' s i = xC7 b f s i
  unfold xC7
  split <;> first | rfl | exact absurd rfl hi
theorem xu7_2 {b : Nat} {f : Nat → Option Nat} {s : RS} {g : Nat → Int32} : ∀ i, i ≠ 15 → xC 7 b f (uA s 2 g) i = xC 7 b f s i := fun i hi => by
  show xC7 b f (uA s 2 g) i = xC7 b f s i
  unfold xC7
  split <;> first | rfl | exact absurd rfl hi
theorem xu7_3 {b : Nat} {f : Nat → Option Nat} {s : RS} {g : Nat → Int32} : ∀ i, i ≠ 16 → xC 7 b f (uA s 3 g) i = xC 7 b f s i := fun i hi => by
  show xC7 b f (uA s 3 g) i = xC7 b f s i
  unfold xC7
  split <;> first | rfl | exact absurd rfl hi
theorem xu8_I {b : Nat} {f : Nat → Option Nat} {s : RS} {k : Nat} {v : Int32} : ∀ i, i ≠ 0 → xC 8 b f (uI s k v) i = xC 8 b f s i := fun i hi => by
  show xC8 b f (uI s k v) i = xC8 b f s i
  unfold xC8
  split <;> first | rfl | exact absurd rfl hi
theorem xu8_L {b : Nat} {f : Nat → Option Nat} {s : RS} {k : Nat} {v : Int64} : ∀ i, i ≠ 0 → xC 8 b f (uL s k v) i = xC 8 b f s i := fun i hi => by
  show xC8 b f (uL s k v) i = xC8 b f s i
  unfold xC8
  split <;> first | rfl | exact absurd rfl hi
theorem xu8_R {b : Nat} {f f' : Nat → Option Nat} {s : RS} : ∀ i, i ≠ 0 → xC 8 b f' s i = xC 8 b f s i := fun i hi => by
  show xC8 b f' s i = xC8 b f s i
  unfold xC8
  split <;> first | rfl | exact absurd rfl hi
theorem xu8_0 {b : Nat} {f : Nat → Option Nat} {s : RS} {g : Nat → Int32} : ∀ i, i ≠ 1 → xC 8 b f (uA s 0 g) i = xC 8 b f s i := fun i hi => by
  show xC8 b f (uA s 0 g) i = xC8 b f s i
  unfold xC8
  split <;> first | rfl | exact absurd rfl hi
theorem xu8_1 {b : Nat} {f : Nat → Option Nat} {s : RS} {g : Nat → Int64} : ∀ i, i ≠ 2 → xC 8 b f (uB s 1 g) i = xC 8 b f s i := fun i hi => by
  show xC8 b f (uB s 1 g) i = xC8 b f s i
  unfold xC8
  split <;> first | rfl | exact absurd rfl hi
theorem xu8_6 {b : Nat} {f : Nat → Option Nat} {s : RS} {g : Nat → Int32} : ∀ i, i ≠ 3 → xC 8 b f (uA s 6 g) i = xC 8 b f s i := fun i hi => by
  show xC8 b f (uA s 6 g) i = xC8 b f s i
  unfold xC8
  split <;> first | rfl | exact absurd rfl hi
theorem xu8_7 {b : Nat} {f : Nat → Option Nat} {s : RS} {g : Nat → Int32} : ∀ i, i ≠ 4 → xC 8 b f (uA s 7 g) i = xC 8 b f s i := fun i hi => by
  show xC8 b f (uA s 7 g) i = xC8 b f s i
  unfold xC8
  split <;> first | rfl | exact absurd rfl hi
theorem xu8_8 {b : Nat} {f : Nat → Option Nat} {s : RS} {g : Nat → Int64} : ∀ i, i ≠ 5 → xC 8 b f (uB s 8 g) i = xC 8 b f s i := fun i hi => by
  show xC8 b f (uB s 8 g) i = xC8 b f s i
  unfold xC8
  split <;> first | rfl | exact absurd rfl hi
theorem xu9_I {b : Nat} {f : Nat → Option Nat} {s : RS} {k : Nat} {v : Int32} : ∀ i, i ≠ 0 → xC 9 b f (uI s k v) i = xC 9 b f s i := fun i hi => by
  show xC9 b f (uI s k v) i = xC9 b f s i
  unfold xC9
  split <;> first | rfl | exact absurd rfl hi
theorem xu9_L {b : Nat} {f : Nat → Option Nat} {s : RS} {k : Nat} {v : Int64} : ∀ i, i ≠ 0 → xC 9 b f (uL s k v) i = xC 9 b f s i := fun i hi => by
  show xC9 b f (uL s k v) i = xC9 b f s i
  unfold xC9
  split <;> first | rfl | exact absurd rfl hi
theorem xu9_R {b : Nat} {f f' : Nat → Option Nat} {s : RS} : ∀ i, i ≠ 0 → xC 9 b f' s i = xC 9 b f s i := fun i hi => by
  show xC9 b f' s i = xC9 b f s i
  unfold xC9
  split <;> first | rfl | exact absurd rfl hi
theorem xu9_0 {b : Nat} {f : Nat → Option Nat} {s : RS} {g : Nat → Int64} : ∀ i, i ≠ 1 → xC 9 b f (uB s 0 g) i = xC 9 b f s i := fun i hi => by
  show xC9 b f (uB s 0 g) i = xC9 b f s i
  unfold xC9
  split <;> first | rfl | exact absurd rfl hi
theorem xu10_I {b : Nat} {f : Nat → Option Nat} {s : RS} {k : Nat} {v : Int32} : ∀ i, i ≠ 0 → xC 10 b f (uI s k v) i = xC 10 b f s i := fun i hi => by
  show xC10 b f (uI s k v) i = xC10 b f s i
  unfold xC10
  split <;> first | rfl | exact absurd rfl hi
theorem xu10_L {b : Nat} {f : Nat → Option Nat} {s : RS} {k : Nat} {v : Int64} : ∀ i, i ≠ 0 → xC 10 b f (uL s k v) i = xC 10 b f s i := fun i hi => by
  show xC10 b f (uL s k v) i = xC10 b f s i
  unfold xC10
  split <;> first | rfl | exact absurd rfl hi
theorem xu10_R {b : Nat} {f f' : Nat → Option Nat} {s : RS} : ∀ i, i ≠ 0 → xC 10 b f' s i = xC 10 b f s i := fun i hi => by
  show xC10 b f' s i = xC10 b f s i
  unfold xC10
  split <;> first | rfl | exact absurd rfl hi
theorem xu10_0 {b : Nat} {f : Nat → Option Nat} {s : RS} {g : Nat → Int32} : ∀ i, i ≠ 1 → xC 10 b f (uA s 0 g) i = xC 10 b f s i := fun i hi => by
  show xC10 b f (uA s 0 g) i = xC10 b f s i
  unfold xC10
  split <;> first | rfl | exact absurd rfl hi
theorem xu10_11 {b : Nat} {f : Nat → Option Nat} {s : RS} {g : Nat → Int32} : ∀ i, i ≠ 23 → xC 10 b f (uA s 11 g) i = xC 10 b f s i := fun i hi => by
  show xC10 b f (uA s 11 g) i = xC10 b f s i
  unfold xC10
  split <;> first | rfl | exact absurd rfl hi
theorem xu10_12 {b : Nat} {f : Nat → Option Nat} {s : RS} {g : Nat → Int32} : ∀ i, i ≠ 24 → xC 10 b f (uA s 12 g) i = xC 10 b f s i := fun i hi => by
  show xC10 b f (uA s 12 g) i = xC10 b f s i
  unfold xC10
  split <;> first | rfl | exact absurd rfl hi
theorem xu10_13 {b : Nat} {f : Nat → Option Nat} {s : RS} {g : Nat → Int32} : ∀ i, i ≠ 25 → xC 10 b f (uA s 13 g) i = xC 10 b f s i := fun i hi => by
  show xC10 b f (uA s 13 g) i = xC10 b f s i
  unfold xC10
  split <;> first | rfl | exact absurd rfl hi
theorem xu10_14 {b : Nat} {f : Nat → Option Nat} {s : RS} {g : Nat → Int32} : ∀ i, i ≠ 26 → xC 10 b f (uA s 14 g) i = xC 10 b f s i := fun i hi => by
  show xC10 b f (uA s 14 g) i = xC10 b f s i
  unfold xC10
  split <;> first | rfl | exact absurd rfl hi
theorem xu10_15 {b : Nat} {f : Nat → Option Nat} {s : RS} {g : Nat → Int32} : ∀ i, i ≠ 27 → xC 10 b f (uA s 15 g) i = xC 10 b f s i := fun i hi => by
  show xC10 b f (uA s 15 g) i = xC10 b f s i
  unfold xC10
  split <;> first | rfl | exact absurd rfl hi
theorem xu11_I {b : Nat} {f : Nat → Option Nat} {s : RS} {k : Nat} {v : Int32} : ∀ i, i ≠ 0 → xC 11 b f (uI s k v) i = xC 11 b f s i := fun i hi => by
  show xC11 b f (uI s k v) i = xC11 b f s i
  unfold xC11
  split <;> first | rfl | exact absurd rfl hi
theorem xu11_L {b : Nat} {f : Nat → Option Nat} {s : RS} {k : Nat} {v : Int64} : ∀ i, i ≠ 0 → xC 11 b f (uL s k v) i = xC 11 b f s i := fun i hi => by
  show xC11 b f (uL s k v) i = xC11 b f s i
  unfold xC11
  split <;> first | rfl | exact absurd rfl hi
theorem xu11_R {b : Nat} {f f' : Nat → Option Nat} {s : RS} : ∀ i, i ≠ 0 → xC 11 b f' s i = xC 11 b f s i := fun i hi => by
  show xC11 b f' s i = xC11 b f s i
  unfold xC11
  split <;> first | rfl | exact absurd rfl hi
theorem xu11_8 {b : Nat} {f : Nat → Option Nat} {s : RS} {g : Nat → Int32} : ∀ i, i ≠ 78 → xC 11 b f (uA s 8 g) i = xC 11 b f s i := fun i hi => by
  show xC11 b f (uA s 8 g) i = xC11 b f s i
  unfold xC11
  split <;> first | rfl | exact absurd rfl hi
section xRules
variable {l : Launch} {d : Nat} {M : aM} {n0 S0 : Nat} {γ : Type} {Φ : γ → Option Value → aH → Prop} {pc : Nat} {lv : List (Nat × Value)} {st : List Value} {h : aH} {e : Option γ} {L : List XR} {L' : RS → List XR} {j b : Nat} {f : Nat → Option Nat} {s : RS}
/-- changes of 0 -/
theorem xg_X0_15 (j : Nat) (ho : xok (L.map xk) h.2.1) (hj : L[j]? = some (0, b, f, s)) (hd : decode M.1 pc = .ok (.getfield 15, 3)) (hw : M.2.1 = RX0) (k : aS l d M n0 S0 Φ (pc + 3) lv (.int (s.1 1) :: st) (xw L h) e) : aS l d M n0 S0 Φ pc lv (.ref b :: st) (xw L h) e := s_get (by rw [hw]; exact fl_X0_15) hd (xw_at (o := 0) ho hj rfl) (xw_lt (o := 0) ho hj rfl) (show (xF0 b f s)[1]? = some (.int (s.1 1)) from rfl) k
theorem xp_X0_15 (j : Nat) {v : Int32} {F : RS → Option γ} (ho : xok (L.map xk) h.2.1) (hj : L[j]? = some (0, b, f, s)) (hL : ∀ s, L.set j (0, b, f, s) = L' s) (hd : decode M.1 pc = .ok (.putfield 15, 3)) (hw : M.2.1 = RX0) (k : ∀ s, aS l d M n0 S0 Φ (pc + 3) lv st (xw (L' s) h) (F s)) : aS l d M n0 S0 Φ pc lv (.int v :: .ref b :: st) (xw L h) (thn (uI s 1 v) F) := s_put (ty := .int) (by rw [hw]; exact fw_X0_15) hd (xw_at (o := 0) ho hj rfl) (xw_lt (o := 0) ho hj rfl) (by show 1 < 16; decide) (fun _ => rfl) (fun _ => rfl) ((xw_up (o := 0) (f' := f) (s' := uI s 1 v) (x := .inr (0, (xF0 b f s).set 1 (.int v))) ho hj rfl xu0_I).trans (by rw [hL])) (k (uI s 1 v))
/-- islandNames of 0 -/
theorem xg_X0_18 (j : Nat) (ho : xok (L.map xk) h.2.1) (hj : L[j]? = some (0, b, f, s)) (hd : decode M.1 pc = .ok (.getfield 18, 3)) (hw : M.2.1 = RX0) (k : aS l d M n0 S0 Φ (pc + 3) lv (.ref (b + 1) :: st) (xw L h) e) : aS l d M n0 S0 Φ pc lv (.ref b :: st) (xw L h) e := s_get (by rw [hw]; exact fl_X0_18) hd (xw_at (o := 0) ho hj rfl) (xw_lt (o := 0) ho hj rfl) (show (xF0 b f s)[2]? = some (.ref (b + 1)) from rfl) k
/-- changeNames of 0 -/
theorem xg_X0_22 (j : Nat) (ho : xok (L.map xk) h.2.1) (hj : L[j]? = some (0, b, f, s)) (hd : decode M.1 pc = .ok (.getfield 22, 3)) (hw : M.2.1 = RX0) (k : aS l d M n0 S0 Φ (pc + 3) lv (.ref (b + 2) :: st) (xw L h) e) : aS l d M n0 S0 Φ pc lv (.ref b :: st) (xw L h) e := s_get (by rw [hw]; exact fl_X0_22) hd (xw_at (o := 0) ho hj rfl) (xw_lt (o := 0) ho hj rfl) (show (xF0 b f s)[3]? = some (.ref (b + 2)) from rfl) k
/-- kinds of 0 -/
theorem xg_X0_25 (j : Nat) (ho : xok (L.map xk) h.2.1) (hj : L[j]? = some (0, b, f, s)) (hd : decode M.1 pc = .ok (.getfield 25, 3)) (hw : M.2.1 = RX0) (k : aS l d M n0 S0 Φ (pc + 3) lv (.ref (b + 3) :: st) (xw L h) e) : aS l d M n0 S0 Φ pc lv (.ref b :: st) (xw L h) e := s_get (by rw [hw]; exact fl_X0_25) hd (xw_at (o := 0) ho hj rfl) (xw_lt (o := 0) ho hj rfl) (show (xF0 b f s)[4]? = some (.ref (b + 3)) from rfl) k
/-- numbers of 0 -/
theorem xg_X0_29 (j : Nat) (ho : xok (L.map xk) h.2.1) (hj : L[j]? = some (0, b, f, s)) (hd : decode M.1 pc = .ok (.getfield 29, 3)) (hw : M.2.1 = RX0) (k : aS l d M n0 S0 Φ (pc + 3) lv (.ref (b + 4) :: st) (xw L h) e) : aS l d M n0 S0 Φ pc lv (.ref b :: st) (xw L h) e := s_get (by rw [hw]; exact fl_X0_29) hd (xw_at (o := 0) ho hj rfl) (xw_lt (o := 0) ho hj rfl) (show (xF0 b f s)[5]? = some (.ref (b + 4)) from rfl) k
/-- sayings of 0 -/
theorem xg_X0_32 (j : Nat) (ho : xok (L.map xk) h.2.1) (hj : L[j]? = some (0, b, f, s)) (hd : decode M.1 pc = .ok (.getfield 32, 3)) (hw : M.2.1 = RX0) (k : aS l d M n0 S0 Φ (pc + 3) lv (.ref (b + 5) :: st) (xw L h) e) : aS l d M n0 S0 Φ pc lv (.ref b :: st) (xw L h) e := s_get (by rw [hw]; exact fl_X0_32) hd (xw_at (o := 0) ho hj rfl) (xw_lt (o := 0) ho hj rfl) (show (xF0 b f s)[6]? = some (.ref (b + 5)) from rfl) k
/-- things of 0 -/
theorem xg_X0_35 (j : Nat) (ho : xok (L.map xk) h.2.1) (hj : L[j]? = some (0, b, f, s)) (hd : decode M.1 pc = .ok (.getfield 35, 3)) (hw : M.2.1 = RX0) (k : aS l d M n0 S0 Φ (pc + 3) lv (.ref (b + 6) :: st) (xw L h) e) : aS l d M n0 S0 Φ pc lv (.ref b :: st) (xw L h) e := s_get (by rw [hw]; exact fl_X0_35) hd (xw_at (o := 0) ho hj rfl) (xw_lt (o := 0) ho hj rfl) (show (xF0 b f s)[7]? = some (.ref (b + 6)) from rfl) k
/-- levels of 0 -/
theorem xg_X0_38 (j : Nat) (ho : xok (L.map xk) h.2.1) (hj : L[j]? = some (0, b, f, s)) (hd : decode M.1 pc = .ok (.getfield 38, 3)) (hw : M.2.1 = RX0) (k : aS l d M n0 S0 Φ (pc + 3) lv (.ref (b + 7) :: st) (xw L h) e) : aS l d M n0 S0 Φ pc lv (.ref b :: st) (xw L h) e := s_get (by rw [hw]; exact fl_X0_38) hd (xw_at (o := 0) ho hj rfl) (xw_lt (o := 0) ho hj rfl) (show (xF0 b f s)[8]? = some (.ref (b + 7)) from rfl) k
/-- direct of 0 -/
theorem xg_X0_41 (j : Nat) (ho : xok (L.map xk) h.2.1) (hj : L[j]? = some (0, b, f, s)) (hd : decode M.1 pc = .ok (.getfield 41, 3)) (hw : M.2.1 = RX0) (k : aS l d M n0 S0 Φ (pc + 3) lv (.ref (b + 8) :: st) (xw L h) e) : aS l d M n0 S0 Φ pc lv (.ref b :: st) (xw L h) e := s_get (by rw [hw]; exact fl_X0_41) hd (xw_at (o := 0) ho hj rfl) (xw_lt (o := 0) ho hj rfl) (show (xF0 b f s)[9]? = some (.ref (b + 8)) from rfl) k
/-- below of 0 -/
theorem xg_X0_44 (j : Nat) (ho : xok (L.map xk) h.2.1) (hj : L[j]? = some (0, b, f, s)) (hd : decode M.1 pc = .ok (.getfield 44, 3)) (hw : M.2.1 = RX0) (k : aS l d M n0 S0 Φ (pc + 3) lv (.ref (b + 9) :: st) (xw L h) e) : aS l d M n0 S0 Φ pc lv (.ref b :: st) (xw L h) e := s_get (by rw [hw]; exact fl_X0_44) hd (xw_at (o := 0) ho hj rfl) (xw_lt (o := 0) ho hj rfl) (show (xF0 b f s)[10]? = some (.ref (b + 9)) from rfl) k
/-- above of 0 -/
theorem xg_X0_47 (j : Nat) (ho : xok (L.map xk) h.2.1) (hj : L[j]? = some (0, b, f, s)) (hd : decode M.1 pc = .ok (.getfield 47, 3)) (hw : M.2.1 = RX0) (k : aS l d M n0 S0 Φ (pc + 3) lv (.ref (b + 10) :: st) (xw L h) e) : aS l d M n0 S0 Φ pc lv (.ref b :: st) (xw L h) e := s_get (by rw [hw]; exact fl_X0_47) hd (xw_at (o := 0) ho hj rfl) (xw_lt (o := 0) ho hj rfl) (show (xF0 b f s)[11]? = some (.ref (b + 10)) from rfl) k
/-- foes of 0 -/
theorem xg_X0_50 (j : Nat) (ho : xok (L.map xk) h.2.1) (hj : L[j]? = some (0, b, f, s)) (hd : decode M.1 pc = .ok (.getfield 50, 3)) (hw : M.2.1 = RX0) (k : aS l d M n0 S0 Φ (pc + 3) lv (.ref (b + 11) :: st) (xw L h) e) : aS l d M n0 S0 Φ pc lv (.ref b :: st) (xw L h) e := s_get (by rw [hw]; exact fl_X0_50) hd (xw_at (o := 0) ho hj rfl) (xw_lt (o := 0) ho hj rfl) (show (xF0 b f s)[12]? = some (.ref (b + 11)) from rfl) k
/-- winners of 0 -/
theorem xg_X0_53 (j : Nat) (ho : xok (L.map xk) h.2.1) (hj : L[j]? = some (0, b, f, s)) (hd : decode M.1 pc = .ok (.getfield 53, 3)) (hw : M.2.1 = RX0) (k : aS l d M n0 S0 Φ (pc + 3) lv (.ref (b + 12) :: st) (xw L h) e) : aS l d M n0 S0 Φ pc lv (.ref b :: st) (xw L h) e := s_get (by rw [hw]; exact fl_X0_53) hd (xw_at (o := 0) ho hj rfl) (xw_lt (o := 0) ho hj rfl) (show (xF0 b f s)[13]? = some (.ref (b + 12)) from rfl) k
/-- losers of 0 -/
theorem xg_X0_56 (j : Nat) (ho : xok (L.map xk) h.2.1) (hj : L[j]? = some (0, b, f, s)) (hd : decode M.1 pc = .ok (.getfield 56, 3)) (hw : M.2.1 = RX0) (k : aS l d M n0 S0 Φ (pc + 3) lv (.ref (b + 13) :: st) (xw L h) e) : aS l d M n0 S0 Φ pc lv (.ref b :: st) (xw L h) e := s_get (by rw [hw]; exact fl_X0_56) hd (xw_at (o := 0) ho hj rfl) (xw_lt (o := 0) ho hj rfl) (show (xF0 b f s)[14]? = some (.ref (b + 13)) from rfl) k
/-- settles of 0 -/
theorem xg_X0_59 (j : Nat) (ho : xok (L.map xk) h.2.1) (hj : L[j]? = some (0, b, f, s)) (hd : decode M.1 pc = .ok (.getfield 59, 3)) (hw : M.2.1 = RX0) (k : aS l d M n0 S0 Φ (pc + 3) lv (.int (s.1 15) :: st) (xw L h) e) : aS l d M n0 S0 Φ pc lv (.ref b :: st) (xw L h) e := s_get (by rw [hw]; exact fl_X0_59) hd (xw_at (o := 0) ho hj rfl) (xw_lt (o := 0) ho hj rfl) (show (xF0 b f s)[15]? = some (.int (s.1 15)) from rfl) k
theorem xp_X0_59 (j : Nat) {v : Int32} {F : RS → Option γ} (ho : xok (L.map xk) h.2.1) (hj : L[j]? = some (0, b, f, s)) (hL : ∀ s, L.set j (0, b, f, s) = L' s) (hd : decode M.1 pc = .ok (.putfield 59, 3)) (hw : M.2.1 = RX0) (k : ∀ s, aS l d M n0 S0 Φ (pc + 3) lv st (xw (L' s) h) (F s)) : aS l d M n0 S0 Φ pc lv (.int v :: .ref b :: st) (xw L h) (thn (uI s 15 v) F) := s_put (ty := .int) (by rw [hw]; exact fw_X0_59) hd (xw_at (o := 0) ho hj rfl) (xw_lt (o := 0) ho hj rfl) (by show 15 < 16; decide) (fun _ => rfl) (fun _ => rfl) ((xw_up (o := 0) (f' := f) (s' := uI s 15 v) (x := .inr (0, (xF0 b f s).set 15 (.int v))) ho hj rfl xu0_I).trans (by rw [hL])) (k (uI s 15 v))
/-- islands of 0 -/
theorem xg_X0_9 (j : Nat) (ho : xok (L.map xk) h.2.1) (hj : L[j]? = some (0, b, f, s)) (hd : decode M.1 pc = .ok (.getfield 9, 3)) (hw : M.2.1 = RX0) (k : aS l d M n0 S0 Φ (pc + 3) lv (.int (s.1 0) :: st) (xw L h) e) : aS l d M n0 S0 Φ pc lv (.ref b :: st) (xw L h) e := s_get (by rw [hw]; exact fl_X0_9) hd (xw_at (o := 0) ho hj rfl) (xw_lt (o := 0) ho hj rfl) (show (xF0 b f s)[0]? = some (.int (s.1 0)) from rfl) k
theorem xp_X0_9 (j : Nat) {v : Int32} {F : RS → Option γ} (ho : xok (L.map xk) h.2.1) (hj : L[j]? = some (0, b, f, s)) (hL : ∀ s, L.set j (0, b, f, s) = L' s) (hd : decode M.1 pc = .ok (.putfield 9, 3)) (hw : M.2.1 = RX0) (k : ∀ s, aS l d M n0 S0 Φ (pc + 3) lv st (xw (L' s) h) (F s)) : aS l d M n0 S0 Φ pc lv (.int v :: .ref b :: st) (xw L h) (thn (uI s 0 v) F) := s_put (ty := .int) (by rw [hw]; exact fw_X0_9) hd (xw_at (o := 0) ho hj rfl) (xw_lt (o := 0) ho hj rfl) (by show 0 < 16; decide) (fun _ => rfl) (fun _ => rfl) ((xw_up (o := 0) (f' := f) (s' := uI s 0 v) (x := .inr (0, (xF0 b f s).set 0 (.int v))) ho hj rfl xu0_I).trans (by rw [hL])) (k (uI s 0 v))
/-- islands of 3 -/
theorem xg_X10_104 (j : Nat) (ho : xok (L.map xk) h.2.1) (hj : L[j]? = some (3, b, f, s)) (hd : decode M.1 pc = .ok (.getfield 104, 3)) (hw : M.2.1 = RX10) (k : aS l d M n0 S0 Φ (pc + 3) lv (.ref (b + 2) :: st) (xw L h) e) : aS l d M n0 S0 Φ pc lv (.ref b :: st) (xw L h) e := s_get (by rw [hw]; exact fl_X10_104) hd (xw_at (o := 0) ho hj rfl) (xw_lt (o := 0) ho hj rfl) (show (xF3 b f s)[3]? = some (.ref (b + 2)) from rfl) k
/-- others of 3 -/
theorem xg_X10_109 (j : Nat) (ho : xok (L.map xk) h.2.1) (hj : L[j]? = some (3, b, f, s)) (hd : decode M.1 pc = .ok (.getfield 109, 3)) (hw : M.2.1 = RX10) (k : aS l d M n0 S0 Φ (pc + 3) lv (.ref (b + 3) :: st) (xw L h) e) : aS l d M n0 S0 Φ pc lv (.ref b :: st) (xw L h) e := s_get (by rw [hw]; exact fl_X10_109) hd (xw_at (o := 0) ho hj rfl) (xw_lt (o := 0) ho hj rfl) (show (xF3 b f s)[4]? = some (.ref (b + 3)) from rfl) k
/-- below of 0 -/
theorem xg_X10_136 (j : Nat) (ho : xok (L.map xk) h.2.1) (hj : L[j]? = some (0, b, f, s)) (hd : decode M.1 pc = .ok (.getfield 136, 3)) (hw : M.2.1 = RX10) (k : aS l d M n0 S0 Φ (pc + 3) lv (.ref (b + 9) :: st) (xw L h) e) : aS l d M n0 S0 Φ pc lv (.ref b :: st) (xw L h) e := s_get (by rw [hw]; exact fl_X10_136) hd (xw_at (o := 0) ho hj rfl) (xw_lt (o := 0) ho hj rfl) (show (xF0 b f s)[10]? = some (.ref (b + 9)) from rfl) k
/-- twice of 3 -/
theorem xg_X10_149 (j : Nat) (ho : xok (L.map xk) h.2.1) (hj : L[j]? = some (3, b, f, s)) (hd : decode M.1 pc = .ok (.getfield 149, 3)) (hw : M.2.1 = RX10) (k : aS l d M n0 S0 Φ (pc + 3) lv (.ref (b + 5) :: st) (xw L h) e) : aS l d M n0 S0 Φ pc lv (.ref b :: st) (xw L h) e := s_get (by rw [hw]; exact fl_X10_149) hd (xw_at (o := 0) ho hj rfl) (xw_lt (o := 0) ho hj rfl) (show (xF3 b f s)[6]? = some (.ref (b + 5)) from rfl) k
/-- steps of 10 -/
theorem xg_X10_15 (j : Nat) (ho : xok (L.map xk) h.2.1) (hj : L[j]? = some (10, b, f, s)) (hd : decode M.1 pc = .ok (.getfield 15, 3)) (hw : M.2.1 = RX10) (k : aS l d M n0 S0 Φ (pc + 3) lv (.int (s.1 1) :: st) (xw L h) e) : aS l d M n0 S0 Φ pc lv (.ref b :: st) (xw L h) e := s_get (by rw [hw]; exact fl_X10_15) hd (xw_at (o := 0) ho hj rfl) (xw_lt (o := 0) ho hj rfl) (show (xF10 b f s)[1]? = some (.int (s.1 1)) from rfl) k
theorem xp_X10_15 (j : Nat) {v : Int32} {F : RS → Option γ} (ho : xok (L.map xk) h.2.1) (hj : L[j]? = some (10, b, f, s)) (hL : ∀ s, L.set j (10, b, f, s) = L' s) (hd : decode M.1 pc = .ok (.putfield 15, 3)) (hw : M.2.1 = RX10) (k : ∀ s, aS l d M n0 S0 Φ (pc + 3) lv st (xw (L' s) h) (F s)) : aS l d M n0 S0 Φ pc lv (.int v :: .ref b :: st) (xw L h) (thn (uI s 1 v) F) := s_put (ty := .int) (by rw [hw]; exact fw_X10_15) hd (xw_at (o := 0) ho hj rfl) (xw_lt (o := 0) ho hj rfl) (by show 1 < 16; decide) (fun _ => rfl) (fun _ => rfl) ((xw_up (o := 0) (f' := f) (s' := uI s 1 v) (x := .inr (10, (xF10 b f s).set 1 (.int v))) ho hj rfl xu10_I).trans (by rw [hL])) (k (uI s 1 v))
/-- day of 10 -/
theorem xg_X10_19 (j : Nat) (ho : xok (L.map xk) h.2.1) (hj : L[j]? = some (10, b, f, s)) (hd : decode M.1 pc = .ok (.getfield 19, 3)) (hw : M.2.1 = RX10) (k : aS l d M n0 S0 Φ (pc + 3) lv (.int (s.1 2) :: st) (xw L h) e) : aS l d M n0 S0 Φ pc lv (.ref b :: st) (xw L h) e := s_get (by rw [hw]; exact fl_X10_19) hd (xw_at (o := 0) ho hj rfl) (xw_lt (o := 0) ho hj rfl) (show (xF10 b f s)[2]? = some (.int (s.1 2)) from rfl) k
theorem xp_X10_19 (j : Nat) {v : Int32} {F : RS → Option γ} (ho : xok (L.map xk) h.2.1) (hj : L[j]? = some (10, b, f, s)) (hL : ∀ s, L.set j (10, b, f, s) = L' s) (hd : decode M.1 pc = .ok (.putfield 19, 3)) (hw : M.2.1 = RX10) (k : ∀ s, aS l d M n0 S0 Φ (pc + 3) lv st (xw (L' s) h) (F s)) : aS l d M n0 S0 Φ pc lv (.int v :: .ref b :: st) (xw L h) (thn (uI s 2 v) F) := s_put (ty := .int) (by rw [hw]; exact fw_X10_19) hd (xw_at (o := 0) ho hj rfl) (xw_lt (o := 0) ho hj rfl) (by show 2 < 16; decide) (fun _ => rfl) (fun _ => rfl) ((xw_up (o := 0) (f' := f) (s' := uI s 2 v) (x := .inr (10, (xF10 b f s).set 2 (.int v))) ho hj rfl xu10_I).trans (by rw [hL])) (k (uI s 2 v))
/-- missed of 10 -/
theorem xg_X10_22 (j : Nat) (ho : xok (L.map xk) h.2.1) (hj : L[j]? = some (10, b, f, s)) (hd : decode M.1 pc = .ok (.getfield 22, 3)) (hw : M.2.1 = RX10) (k : aS l d M n0 S0 Φ (pc + 3) lv (.int (s.1 3) :: st) (xw L h) e) : aS l d M n0 S0 Φ pc lv (.ref b :: st) (xw L h) e := s_get (by rw [hw]; exact fl_X10_22) hd (xw_at (o := 0) ho hj rfl) (xw_lt (o := 0) ho hj rfl) (show (xF10 b f s)[3]? = some (.int (s.1 3)) from rfl) k
theorem xp_X10_22 (j : Nat) {v : Int32} {F : RS → Option γ} (ho : xok (L.map xk) h.2.1) (hj : L[j]? = some (10, b, f, s)) (hL : ∀ s, L.set j (10, b, f, s) = L' s) (hd : decode M.1 pc = .ok (.putfield 22, 3)) (hw : M.2.1 = RX10) (k : ∀ s, aS l d M n0 S0 Φ (pc + 3) lv st (xw (L' s) h) (F s)) : aS l d M n0 S0 Φ pc lv (.int v :: .ref b :: st) (xw L h) (thn (uI s 3 v) F) := s_put (ty := .int) (by rw [hw]; exact fw_X10_22) hd (xw_at (o := 0) ho hj rfl) (xw_lt (o := 0) ho hj rfl) (by show 3 < 16; decide) (fun _ => rfl) (fun _ => rfl) ((xw_up (o := 0) (f' := f) (s' := uI s 3 v) (x := .inr (10, (xF10 b f s).set 3 (.int v))) ho hj rfl xu10_I).trans (by rw [hL])) (k (uI s 3 v))
/-- came of 10 -/
theorem xg_X10_25 (j : Nat) (ho : xok (L.map xk) h.2.1) (hj : L[j]? = some (10, b, f, s)) (hd : decode M.1 pc = .ok (.getfield 25, 3)) (hw : M.2.1 = RX10) (k : aS l d M n0 S0 Φ (pc + 3) lv (.int (s.1 4) :: st) (xw L h) e) : aS l d M n0 S0 Φ pc lv (.ref b :: st) (xw L h) e := s_get (by rw [hw]; exact fl_X10_25) hd (xw_at (o := 0) ho hj rfl) (xw_lt (o := 0) ho hj rfl) (show (xF10 b f s)[4]? = some (.int (s.1 4)) from rfl) k
theorem xp_X10_25 (j : Nat) {v : Int32} {F : RS → Option γ} (ho : xok (L.map xk) h.2.1) (hj : L[j]? = some (10, b, f, s)) (hL : ∀ s, L.set j (10, b, f, s) = L' s) (hd : decode M.1 pc = .ok (.putfield 25, 3)) (hw : M.2.1 = RX10) (k : ∀ s, aS l d M n0 S0 Φ (pc + 3) lv st (xw (L' s) h) (F s)) : aS l d M n0 S0 Φ pc lv (.int v :: .ref b :: st) (xw L h) (thn (uI s 4 v) F) := s_put (ty := .int) (by rw [hw]; exact fw_X10_25) hd (xw_at (o := 0) ho hj rfl) (xw_lt (o := 0) ho hj rfl) (by show 4 < 16; decide) (fun _ => rfl) (fun _ => rfl) ((xw_up (o := 0) (f' := f) (s' := uI s 4 v) (x := .inr (10, (xF10 b f s).set 4 (.int v))) ho hj rfl xu10_I).trans (by rw [hL])) (k (uI s 4 v))
/-- lost of 10 -/
theorem xg_X10_28 (j : Nat) (ho : xok (L.map xk) h.2.1) (hj : L[j]? = some (10, b, f, s)) (hd : decode M.1 pc = .ok (.getfield 28, 3)) (hw : M.2.1 = RX10) (k : aS l d M n0 S0 Φ (pc + 3) lv (.int (s.1 5) :: st) (xw L h) e) : aS l d M n0 S0 Φ pc lv (.ref b :: st) (xw L h) e := s_get (by rw [hw]; exact fl_X10_28) hd (xw_at (o := 0) ho hj rfl) (xw_lt (o := 0) ho hj rfl) (show (xF10 b f s)[5]? = some (.int (s.1 5)) from rfl) k
theorem xp_X10_28 (j : Nat) {v : Int32} {F : RS → Option γ} (ho : xok (L.map xk) h.2.1) (hj : L[j]? = some (10, b, f, s)) (hL : ∀ s, L.set j (10, b, f, s) = L' s) (hd : decode M.1 pc = .ok (.putfield 28, 3)) (hw : M.2.1 = RX10) (k : ∀ s, aS l d M n0 S0 Φ (pc + 3) lv st (xw (L' s) h) (F s)) : aS l d M n0 S0 Φ pc lv (.int v :: .ref b :: st) (xw L h) (thn (uI s 5 v) F) := s_put (ty := .int) (by rw [hw]; exact fw_X10_28) hd (xw_at (o := 0) ho hj rfl) (xw_lt (o := 0) ho hj rfl) (by show 5 < 16; decide) (fun _ => rfl) (fun _ => rfl) ((xw_up (o := 0) (f' := f) (s' := uI s 5 v) (x := .inr (10, (xF10 b f s).set 5 (.int v))) ho hj rfl xu10_I).trans (by rw [hL])) (k (uI s 5 v))
/-- cargoes of 10 -/
theorem xg_X10_31 (j : Nat) (ho : xok (L.map xk) h.2.1) (hj : L[j]? = some (10, b, f, s)) (hd : decode M.1 pc = .ok (.getfield 31, 3)) (hw : M.2.1 = RX10) (k : aS l d M n0 S0 Φ (pc + 3) lv (.int (s.1 6) :: st) (xw L h) e) : aS l d M n0 S0 Φ pc lv (.ref b :: st) (xw L h) e := s_get (by rw [hw]; exact fl_X10_31) hd (xw_at (o := 0) ho hj rfl) (xw_lt (o := 0) ho hj rfl) (show (xF10 b f s)[6]? = some (.int (s.1 6)) from rfl) k
theorem xp_X10_31 (j : Nat) {v : Int32} {F : RS → Option γ} (ho : xok (L.map xk) h.2.1) (hj : L[j]? = some (10, b, f, s)) (hL : ∀ s, L.set j (10, b, f, s) = L' s) (hd : decode M.1 pc = .ok (.putfield 31, 3)) (hw : M.2.1 = RX10) (k : ∀ s, aS l d M n0 S0 Φ (pc + 3) lv st (xw (L' s) h) (F s)) : aS l d M n0 S0 Φ pc lv (.int v :: .ref b :: st) (xw L h) (thn (uI s 6 v) F) := s_put (ty := .int) (by rw [hw]; exact fw_X10_31) hd (xw_at (o := 0) ho hj rfl) (xw_lt (o := 0) ho hj rfl) (by show 6 < 16; decide) (fun _ => rfl) (fun _ => rfl) ((xw_up (o := 0) (f' := f) (s' := uI s 6 v) (x := .inr (10, (xF10 b f s).set 6 (.int v))) ho hj rfl xu10_I).trans (by rw [hL])) (k (uI s 6 v))
/-- book of 10 -/
theorem xg_X10_37 (j : Nat) {a : Nat} (ho : xok (L.map xk) h.2.1) (hj : L[j]? = some (10, b, f, s)) (hd : decode M.1 pc = .ok (.getfield 37, 3)) (hw : M.2.1 = RX10) (hr : f 7 = some a) (k : aS l d M n0 S0 Φ (pc + 3) lv (.ref a :: st) (xw L h) e) : aS l d M n0 S0 Φ pc lv (.ref b :: st) (xw L h) e := s_get (by rw [hw]; exact fl_X10_37) hd (xw_at (o := 0) ho hj rfl) (xw_lt (o := 0) ho hj rfl) (show (xF10 b f s)[7]? = some (a_rf (f 7)) from rfl) (by rw [hr]; exact k)
theorem xgN_X10_37 (j : Nat) (ho : xok (L.map xk) h.2.1) (hj : L[j]? = some (10, b, f, s)) (hd : decode M.1 pc = .ok (.getfield 37, 3)) (hw : M.2.1 = RX10) (hr : f 7 = none) (k : aS l d M n0 S0 Φ (pc + 3) lv (.null :: st) (xw L h) e) : aS l d M n0 S0 Φ pc lv (.ref b :: st) (xw L h) e := s_get (by rw [hw]; exact fl_X10_37) hd (xw_at (o := 0) ho hj rfl) (xw_lt (o := 0) ho hj rfl) (show (xF10 b f s)[7]? = some (a_rf (f 7)) from rfl) (by rw [hr]; exact k)
theorem xp_X10_37 (j : Nat) {a : Nat} {L2 : List XR} (ho : xok (L.map xk) h.2.1) (hj : L[j]? = some (10, b, f, s)) (hL : L.set j (10, b, va_up f 7 (some a), s) = L2) (hd : decode M.1 pc = .ok (.putfield 37, 3)) (hw : M.2.1 = RX10) (k : aS l d M n0 S0 Φ (pc + 3) lv st (xw L2 h) e) : aS l d M n0 S0 Φ pc lv (.ref a :: .ref b :: st) (xw L h) e := s_put (ty := (.object "SwapBook$Book")) (by rw [hw]; exact fw_X10_37) hd (xw_at (o := 0) ho hj rfl) (xw_lt (o := 0) ho hj rfl) (by show 7 < 16; decide) (fun _ => rfl) (fun _ => rfl) ((xw_up (o := 0) (f' := va_up f 7 (some a)) (s' := s) (x := .inr (10, (xF10 b f s).set 7 (.ref a))) ho hj rfl xu10_R).trans (by rw [hL])) k
theorem xpN_X10_37 (j : Nat) {L2 : List XR} (ho : xok (L.map xk) h.2.1) (hj : L[j]? = some (10, b, f, s)) (hL : L.set j (10, b, va_up f 7 none, s) = L2) (hd : decode M.1 pc = .ok (.putfield 37, 3)) (hw : M.2.1 = RX10) (k : aS l d M n0 S0 Φ (pc + 3) lv st (xw L2 h) e) : aS l d M n0 S0 Φ pc lv (.null :: .ref b :: st) (xw L h) e := s_put (ty := (.object "SwapBook$Book")) (by rw [hw]; exact fw_X10_37) hd (xw_at (o := 0) ho hj rfl) (xw_lt (o := 0) ho hj rfl) (by show 7 < 16; decide) (fun _ => rfl) (fun _ => rfl) ((xw_up (o := 0) (f' := va_up f 7 none) (s' := s) (x := .inr (10, (xF10 b f s).set 7 .null)) ho hj rfl xu10_R).trans (by rw [hL])) k
/-- log of 10 -/
theorem xg_X10_44 (j : Nat) {a : Nat} (ho : xok (L.map xk) h.2.1) (hj : L[j]? = some (10, b, f, s)) (hd : decode M.1 pc = .ok (.getfield 44, 3)) (hw : M.2.1 = RX10) (hr : f 8 = some a) (k : aS l d M n0 S0 Φ (pc + 3) lv (.ref a :: st) (xw L h) e) : aS l d M n0 S0 Φ pc lv (.ref b :: st) (xw L h) e := s_get (by rw [hw]; exact fl_X10_44) hd (xw_at (o := 0) ho hj rfl) (xw_lt (o := 0) ho hj rfl) (show (xF10 b f s)[8]? = some (a_rf (f 8)) from rfl) (by rw [hr]; exact k)
theorem xgN_X10_44 (j : Nat) (ho : xok (L.map xk) h.2.1) (hj : L[j]? = some (10, b, f, s)) (hd : decode M.1 pc = .ok (.getfield 44, 3)) (hw : M.2.1 = RX10) (hr : f 8 = none) (k : aS l d M n0 S0 Φ (pc + 3) lv (.null :: st) (xw L h) e) : aS l d M n0 S0 Φ pc lv (.ref b :: st) (xw L h) e := s_get (by rw [hw]; exact fl_X10_44) hd (xw_at (o := 0) ho hj rfl) (xw_lt (o := 0) ho hj rfl) (show (xF10 b f s)[8]? = some (a_rf (f 8)) from rfl) (by rw [hr]; exact k)
theorem xp_X10_44 (j : Nat) {a : Nat} {L2 : List XR} (ho : xok (L.map xk) h.2.1) (hj : L[j]? = some (10, b, f, s)) (hL : L.set j (10, b, va_up f 8 (some a), s) = L2) (hd : decode M.1 pc = .ok (.putfield 44, 3)) (hw : M.2.1 = RX10) (k : aS l d M n0 S0 Φ (pc + 3) lv st (xw L2 h) e) : aS l d M n0 S0 Φ pc lv (.ref a :: .ref b :: st) (xw L h) e := s_put (ty := (.object "SwapBook$Log")) (by rw [hw]; exact fw_X10_44) hd (xw_at (o := 0) ho hj rfl) (xw_lt (o := 0) ho hj rfl) (by show 8 < 16; decide) (fun _ => rfl) (fun _ => rfl) ((xw_up (o := 0) (f' := va_up f 8 (some a)) (s' := s) (x := .inr (10, (xF10 b f s).set 8 (.ref a))) ho hj rfl xu10_R).trans (by rw [hL])) k
theorem xpN_X10_44 (j : Nat) {L2 : List XR} (ho : xok (L.map xk) h.2.1) (hj : L[j]? = some (10, b, f, s)) (hL : L.set j (10, b, va_up f 8 none, s) = L2) (hd : decode M.1 pc = .ok (.putfield 44, 3)) (hw : M.2.1 = RX10) (k : aS l d M n0 S0 Φ (pc + 3) lv st (xw L2 h) e) : aS l d M n0 S0 Φ pc lv (.null :: .ref b :: st) (xw L h) e := s_put (ty := (.object "SwapBook$Log")) (by rw [hw]; exact fw_X10_44) hd (xw_at (o := 0) ho hj rfl) (xw_lt (o := 0) ho hj rfl) (by show 8 < 16; decide) (fun _ => rfl) (fun _ => rfl) ((xw_up (o := 0) (f' := va_up f 8 none) (s' := s) (x := .inr (10, (xF10 b f s).set 8 .null)) ho hj rfl xu10_R).trans (by rw [hL])) k
/-- chance of 10 -/
theorem xg_X10_48 (j : Nat) (ho : xok (L.map xk) h.2.1) (hj : L[j]? = some (10, b, f, s)) (hd : decode M.1 pc = .ok (.getfield 48, 3)) (hw : M.2.1 = RX10) (k : aS l d M n0 S0 Φ (pc + 3) lv (.int (s.1 9) :: st) (xw L h) e) : aS l d M n0 S0 Φ pc lv (.ref b :: st) (xw L h) e := s_get (by rw [hw]; exact fl_X10_48) hd (xw_at (o := 0) ho hj rfl) (xw_lt (o := 0) ho hj rfl) (show (xF10 b f s)[9]? = some (.int (s.1 9)) from rfl) k
theorem xp_X10_48 (j : Nat) {v : Int32} {F : RS → Option γ} (ho : xok (L.map xk) h.2.1) (hj : L[j]? = some (10, b, f, s)) (hL : ∀ s, L.set j (10, b, f, s) = L' s) (hd : decode M.1 pc = .ok (.putfield 48, 3)) (hw : M.2.1 = RX10) (k : ∀ s, aS l d M n0 S0 Φ (pc + 3) lv st (xw (L' s) h) (F s)) : aS l d M n0 S0 Φ pc lv (.int v :: .ref b :: st) (xw L h) (thn (uI s 9 v) F) := s_put (ty := .int) (by rw [hw]; exact fw_X10_48) hd (xw_at (o := 0) ho hj rfl) (xw_lt (o := 0) ho hj rfl) (by show 9 < 16; decide) (fun _ => rfl) (fun _ => rfl) ((xw_up (o := 0) (f' := f) (s' := uI s 9 v) (x := .inr (10, (xF10 b f s).set 9 (.int v))) ho hj rfl xu10_I).trans (by rw [hL])) (k (uI s 9 v))
/-- ships of 10 -/
theorem xg_X10_51 (j : Nat) (ho : xok (L.map xk) h.2.1) (hj : L[j]? = some (10, b, f, s)) (hd : decode M.1 pc = .ok (.getfield 51, 3)) (hw : M.2.1 = RX10) (k : aS l d M n0 S0 Φ (pc + 3) lv (.int (s.1 10) :: st) (xw L h) e) : aS l d M n0 S0 Φ pc lv (.ref b :: st) (xw L h) e := s_get (by rw [hw]; exact fl_X10_51) hd (xw_at (o := 0) ho hj rfl) (xw_lt (o := 0) ho hj rfl) (show (xF10 b f s)[10]? = some (.int (s.1 10)) from rfl) k
theorem xp_X10_51 (j : Nat) {v : Int32} {F : RS → Option γ} (ho : xok (L.map xk) h.2.1) (hj : L[j]? = some (10, b, f, s)) (hL : ∀ s, L.set j (10, b, f, s) = L' s) (hd : decode M.1 pc = .ok (.putfield 51, 3)) (hw : M.2.1 = RX10) (k : ∀ s, aS l d M n0 S0 Φ (pc + 3) lv st (xw (L' s) h) (F s)) : aS l d M n0 S0 Φ pc lv (.int v :: .ref b :: st) (xw L h) (thn (uI s 10 v) F) := s_put (ty := .int) (by rw [hw]; exact fw_X10_51) hd (xw_at (o := 0) ho hj rfl) (xw_lt (o := 0) ho hj rfl) (by show 10 < 16; decide) (fun _ => rfl) (fun _ => rfl) ((xw_up (o := 0) (f' := f) (s' := uI s 10 v) (x := .inr (10, (xF10 b f s).set 10 (.int v))) ho hj rfl xu10_I).trans (by rw [hL])) (k (uI s 10 v))
/-- cargoSets of 10 -/
theorem xg_X10_54 (j : Nat) (ho : xok (L.map xk) h.2.1) (hj : L[j]? = some (10, b, f, s)) (hd : decode M.1 pc = .ok (.getfield 54, 3)) (hw : M.2.1 = RX10) (k : aS l d M n0 S0 Φ (pc + 3) lv (.ref (b + 23) :: st) (xw L h) e) : aS l d M n0 S0 Φ pc lv (.ref b :: st) (xw L h) e := s_get (by rw [hw]; exact fl_X10_54) hd (xw_at (o := 0) ho hj rfl) (xw_lt (o := 0) ho hj rfl) (show (xF10 b f s)[11]? = some (.ref (b + 23)) from rfl) k
/-- cargoTargets of 10 -/
theorem xg_X10_57 (j : Nat) (ho : xok (L.map xk) h.2.1) (hj : L[j]? = some (10, b, f, s)) (hd : decode M.1 pc = .ok (.getfield 57, 3)) (hw : M.2.1 = RX10) (k : aS l d M n0 S0 Φ (pc + 3) lv (.ref (b + 24) :: st) (xw L h) e) : aS l d M n0 S0 Φ pc lv (.ref b :: st) (xw L h) e := s_get (by rw [hw]; exact fl_X10_57) hd (xw_at (o := 0) ho hj rfl) (xw_lt (o := 0) ho hj rfl) (show (xF10 b f s)[12]? = some (.ref (b + 24)) from rfl) k
/-- cargoDays of 10 -/
theorem xg_X10_60 (j : Nat) (ho : xok (L.map xk) h.2.1) (hj : L[j]? = some (10, b, f, s)) (hd : decode M.1 pc = .ok (.getfield 60, 3)) (hw : M.2.1 = RX10) (k : aS l d M n0 S0 Φ (pc + 3) lv (.ref (b + 25) :: st) (xw L h) e) : aS l d M n0 S0 Φ pc lv (.ref b :: st) (xw L h) e := s_get (by rw [hw]; exact fl_X10_60) hd (xw_at (o := 0) ho hj rfl) (xw_lt (o := 0) ho hj rfl) (show (xF10 b f s)[13]? = some (.ref (b + 25)) from rfl) k
/-- cargoShips of 10 -/
theorem xg_X10_63 (j : Nat) (ho : xok (L.map xk) h.2.1) (hj : L[j]? = some (10, b, f, s)) (hd : decode M.1 pc = .ok (.getfield 63, 3)) (hw : M.2.1 = RX10) (k : aS l d M n0 S0 Φ (pc + 3) lv (.ref (b + 26) :: st) (xw L h) e) : aS l d M n0 S0 Φ pc lv (.ref b :: st) (xw L h) e := s_get (by rw [hw]; exact fl_X10_63) hd (xw_at (o := 0) ho hj rfl) (xw_lt (o := 0) ho hj rfl) (show (xF10 b f s)[14]? = some (.ref (b + 26)) from rfl) k
/-- roundsLeft of 10 -/
theorem xg_X10_66 (j : Nat) (ho : xok (L.map xk) h.2.1) (hj : L[j]? = some (10, b, f, s)) (hd : decode M.1 pc = .ok (.getfield 66, 3)) (hw : M.2.1 = RX10) (k : aS l d M n0 S0 Φ (pc + 3) lv (.ref (b + 27) :: st) (xw L h) e) : aS l d M n0 S0 Φ pc lv (.ref b :: st) (xw L h) e := s_get (by rw [hw]; exact fl_X10_66) hd (xw_at (o := 0) ho hj rfl) (xw_lt (o := 0) ho hj rfl) (show (xF10 b f s)[15]? = some (.ref (b + 27)) from rfl) k
/-- words of 3 -/
theorem xg_X10_74 (j : Nat) (ho : xok (L.map xk) h.2.1) (hj : L[j]? = some (3, b, f, s)) (hd : decode M.1 pc = .ok (.getfield 74, 3)) (hw : M.2.1 = RX10) (k : aS l d M n0 S0 Φ (pc + 3) lv (.ref (b + 1) :: st) (xw L h) e) : aS l d M n0 S0 Φ pc lv (.ref b :: st) (xw L h) e := s_get (by rw [hw]; exact fl_X10_74) hd (xw_at (o := 0) ho hj rfl) (xw_lt (o := 0) ho hj rfl) (show (xF3 b f s)[2]? = some (.ref (b + 1)) from rfl) k
/-- rows of 3 -/
theorem xg_X10_86 (j : Nat) (ho : xok (L.map xk) h.2.1) (hj : L[j]? = some (3, b, f, s)) (hd : decode M.1 pc = .ok (.getfield 86, 3)) (hw : M.2.1 = RX10) (k : aS l d M n0 S0 Φ (pc + 3) lv (.int (s.1 1) :: st) (xw L h) e) : aS l d M n0 S0 Φ pc lv (.ref b :: st) (xw L h) e := s_get (by rw [hw]; exact fl_X10_86) hd (xw_at (o := 0) ho hj rfl) (xw_lt (o := 0) ho hj rfl) (show (xF3 b f s)[1]? = some (.int (s.1 1)) from rfl) k
theorem xp_X10_86 (j : Nat) {v : Int32} {F : RS → Option γ} (ho : xok (L.map xk) h.2.1) (hj : L[j]? = some (3, b, f, s)) (hL : ∀ s, L.set j (3, b, f, s) = L' s) (hd : decode M.1 pc = .ok (.putfield 86, 3)) (hw : M.2.1 = RX10) (k : ∀ s, aS l d M n0 S0 Φ (pc + 3) lv st (xw (L' s) h) (F s)) : aS l d M n0 S0 Φ pc lv (.int v :: .ref b :: st) (xw L h) (thn (uI s 1 v) F) := s_put (ty := .int) (by rw [hw]; exact fw_X10_86) hd (xw_at (o := 0) ho hj rfl) (xw_lt (o := 0) ho hj rfl) (by show 1 < 8; decide) (fun _ => rfl) (fun _ => rfl) ((xw_up (o := 0) (f' := f) (s' := uI s 1 v) (x := .inr (3, (xF3 b f s).set 1 (.int v))) ho hj rfl xu3_I).trans (by rw [hL])) (k (uI s 1 v))
/-- islands of 0 -/
theorem xg_X10_89 (j : Nat) (ho : xok (L.map xk) h.2.1) (hj : L[j]? = some (0, b, f, s)) (hd : decode M.1 pc = .ok (.getfield 89, 3)) (hw : M.2.1 = RX10) (k : aS l d M n0 S0 Φ (pc + 3) lv (.int (s.1 0) :: st) (xw L h) e) : aS l d M n0 S0 Φ pc lv (.ref b :: st) (xw L h) e := s_get (by rw [hw]; exact fl_X10_89) hd (xw_at (o := 0) ho hj rfl) (xw_lt (o := 0) ho hj rfl) (show (xF0 b f s)[0]? = some (.int (s.1 0)) from rfl) k
theorem xp_X10_89 (j : Nat) {v : Int32} {F : RS → Option γ} (ho : xok (L.map xk) h.2.1) (hj : L[j]? = some (0, b, f, s)) (hL : ∀ s, L.set j (0, b, f, s) = L' s) (hd : decode M.1 pc = .ok (.putfield 89, 3)) (hw : M.2.1 = RX10) (k : ∀ s, aS l d M n0 S0 Φ (pc + 3) lv st (xw (L' s) h) (F s)) : aS l d M n0 S0 Φ pc lv (.int v :: .ref b :: st) (xw L h) (thn (uI s 0 v) F) := s_put (ty := .int) (by rw [hw]; exact fw_X10_89) hd (xw_at (o := 0) ho hj rfl) (xw_lt (o := 0) ho hj rfl) (by show 0 < 16; decide) (fun _ => rfl) (fun _ => rfl) ((xw_up (o := 0) (f' := f) (s' := uI s 0 v) (x := .inr (0, (xF0 b f s).set 0 (.int v))) ho hj rfl xu0_I).trans (by rw [hL])) (k (uI s 0 v))
/-- has of 10 -/
theorem xg_X10_9 (j : Nat) (ho : xok (L.map xk) h.2.1) (hj : L[j]? = some (10, b, f, s)) (hd : decode M.1 pc = .ok (.getfield 9, 3)) (hw : M.2.1 = RX10) (k : aS l d M n0 S0 Φ (pc + 3) lv (.ref (b + 1) :: st) (xw L h) e) : aS l d M n0 S0 Φ pc lv (.ref b :: st) (xw L h) e := s_get (by rw [hw]; exact fl_X10_9) hd (xw_at (o := 0) ho hj rfl) (xw_lt (o := 0) ho hj rfl) (show (xF10 b f s)[0]? = some (.ref (b + 1)) from rfl) k
/-- partners of 3 -/
theorem xg_X10_92 (j : Nat) (ho : xok (L.map xk) h.2.1) (hj : L[j]? = some (3, b, f, s)) (hd : decode M.1 pc = .ok (.getfield 92, 3)) (hw : M.2.1 = RX10) (k : aS l d M n0 S0 Φ (pc + 3) lv (.ref (b + 6) :: st) (xw L h) e) : aS l d M n0 S0 Φ pc lv (.ref b :: st) (xw L h) e := s_get (by rw [hw]; exact fl_X10_92) hd (xw_at (o := 0) ho hj rfl) (xw_lt (o := 0) ho hj rfl) (show (xF3 b f s)[7]? = some (.ref (b + 6)) from rfl) k
/-- numbers of 3 -/
theorem xg_X10_95 (j : Nat) (ho : xok (L.map xk) h.2.1) (hj : L[j]? = some (3, b, f, s)) (hd : decode M.1 pc = .ok (.getfield 95, 3)) (hw : M.2.1 = RX10) (k : aS l d M n0 S0 Φ (pc + 3) lv (.ref (b + 4) :: st) (xw L h) e) : aS l d M n0 S0 Φ pc lv (.ref b :: st) (xw L h) e := s_get (by rw [hw]; exact fl_X10_95) hd (xw_at (o := 0) ho hj rfl) (xw_lt (o := 0) ho hj rfl) (show (xF3 b f s)[5]? = some (.ref (b + 4)) from rfl) k
/-- trays of 11 -/
theorem xg_X11_11 (j : Nat) (ho : xok (L.map xk) h.2.1) (hj : L[j]? = some (11, b, f, s)) (hd : decode M.1 pc = .ok (.getfield 11, 3)) (hw : M.2.1 = RX11) (k : aS l d M n0 S0 Φ (pc + 3) lv (.ref (b + 1) :: st) (xw L h) e) : aS l d M n0 S0 Φ pc lv (.ref b :: st) (xw L h) e := s_get (by rw [hw]; exact fl_X11_11) hd (xw_at (o := 0) ho hj rfl) (xw_lt (o := 0) ho hj rfl) (show (xF11 b f s)[0]? = some (.ref (b + 1)) from rfl) k
/-- sort of 9 -/
theorem xg_X11_125 (j : Nat) (ho : xok (L.map xk) h.2.1) (hj : L[j]? = some (9, b, f, s)) (hd : decode M.1 pc = .ok (.getfield 125, 3)) (hw : M.2.1 = RX11) (k : aS l d M n0 S0 Φ (pc + 3) lv (.int (s.1 1) :: st) (xw L h) e) : aS l d M n0 S0 Φ pc lv (.ref b :: st) (xw L h) e := s_get (by rw [hw]; exact fl_X11_125) hd (xw_at (o := 0) ho hj rfl) (xw_lt (o := 0) ho hj rfl) (show (xF9 b f s)[1]? = some (.int (s.1 1)) from rfl) k
theorem xp_X11_125 (j : Nat) {v : Int32} {F : RS → Option γ} (ho : xok (L.map xk) h.2.1) (hj : L[j]? = some (9, b, f, s)) (hL : ∀ s, L.set j (9, b, f, s) = L' s) (hd : decode M.1 pc = .ok (.putfield 125, 3)) (hw : M.2.1 = RX11) (k : ∀ s, aS l d M n0 S0 Φ (pc + 3) lv st (xw (L' s) h) (F s)) : aS l d M n0 S0 Φ pc lv (.int v :: .ref b :: st) (xw L h) (thn (uI s 1 v) F) := s_put (ty := .int) (by rw [hw]; exact fw_X11_125) hd (xw_at (o := 0) ho hj rfl) (xw_lt (o := 0) ho hj rfl) (by show 1 < 3; decide) (fun _ => rfl) (fun _ => rfl) ((xw_up (o := 0) (f' := f) (s' := uI s 1 v) (x := .inr (9, (xF9 b f s).set 1 (.int v))) ho hj rfl xu9_I).trans (by rw [hL])) (k (uI s 1 v))
/-- numbers of 9 -/
theorem xg_X11_128 (j : Nat) (ho : xok (L.map xk) h.2.1) (hj : L[j]? = some (9, b, f, s)) (hd : decode M.1 pc = .ok (.getfield 128, 3)) (hw : M.2.1 = RX11) (k : aS l d M n0 S0 Φ (pc + 3) lv (.ref (b + 1) :: st) (xw L h) e) : aS l d M n0 S0 Φ pc lv (.ref b :: st) (xw L h) e := s_get (by rw [hw]; exact fl_X11_128) hd (xw_at (o := 0) ho hj rfl) (xw_lt (o := 0) ho hj rfl) (show (xF9 b f s)[0]? = some (.ref (b + 1)) from rfl) k
/-- tapeLength of 8 -/
theorem xg_X11_145 (j : Nat) (ho : xok (L.map xk) h.2.1) (hj : L[j]? = some (8, b, f, s)) (hd : decode M.1 pc = .ok (.getfield 145, 3)) (hw : M.2.1 = RX11) (k : aS l d M n0 S0 Φ (pc + 3) lv (.int (s.1 2) :: st) (xw L h) e) : aS l d M n0 S0 Φ pc lv (.ref b :: st) (xw L h) e := s_get (by rw [hw]; exact fl_X11_145) hd (xw_at (o := 0) ho hj rfl) (xw_lt (o := 0) ho hj rfl) (show (xF8 b f s)[2]? = some (.int (s.1 2)) from rfl) k
theorem xp_X11_145 (j : Nat) {v : Int32} {F : RS → Option γ} (ho : xok (L.map xk) h.2.1) (hj : L[j]? = some (8, b, f, s)) (hL : ∀ s, L.set j (8, b, f, s) = L' s) (hd : decode M.1 pc = .ok (.putfield 145, 3)) (hw : M.2.1 = RX11) (k : ∀ s, aS l d M n0 S0 Φ (pc + 3) lv st (xw (L' s) h) (F s)) : aS l d M n0 S0 Φ pc lv (.int v :: .ref b :: st) (xw L h) (thn (uI s 2 v) F) := s_put (ty := .int) (by rw [hw]; exact fw_X11_145) hd (xw_at (o := 0) ho hj rfl) (xw_lt (o := 0) ho hj rfl) (by show 2 < 11; decide) (fun _ => rfl) (fun _ => rfl) ((xw_up (o := 0) (f' := f) (s' := uI s 2 v) (x := .inr (8, (xF8 b f s).set 2 (.int v))) ho hj rfl xu8_I).trans (by rw [hL])) (k (uI s 2 v))
/-- fault of 8 -/
theorem xg_X11_157 (j : Nat) (ho : xok (L.map xk) h.2.1) (hj : L[j]? = some (8, b, f, s)) (hd : decode M.1 pc = .ok (.getfield 157, 3)) (hw : M.2.1 = RX11) (k : aS l d M n0 S0 Φ (pc + 3) lv (.int (s.1 3) :: st) (xw L h) e) : aS l d M n0 S0 Φ pc lv (.ref b :: st) (xw L h) e := s_get (by rw [hw]; exact fl_X11_157) hd (xw_at (o := 0) ho hj rfl) (xw_lt (o := 0) ho hj rfl) (show (xF8 b f s)[3]? = some (.int (s.1 3)) from rfl) k
theorem xp_X11_157 (j : Nat) {v : Int32} {F : RS → Option γ} (ho : xok (L.map xk) h.2.1) (hj : L[j]? = some (8, b, f, s)) (hL : ∀ s, L.set j (8, b, f, s) = L' s) (hd : decode M.1 pc = .ok (.putfield 157, 3)) (hw : M.2.1 = RX11) (k : ∀ s, aS l d M n0 S0 Φ (pc + 3) lv st (xw (L' s) h) (F s)) : aS l d M n0 S0 Φ pc lv (.int v :: .ref b :: st) (xw L h) (thn (uI s 3 v) F) := s_put (ty := .int) (by rw [hw]; exact fw_X11_157) hd (xw_at (o := 0) ho hj rfl) (xw_lt (o := 0) ho hj rfl) (by show 3 < 11; decide) (fun _ => rfl) (fun _ => rfl) ((xw_up (o := 0) (f' := f) (s' := uI s 3 v) (x := .inr (8, (xF8 b f s).set 3 (.int v))) ho hj rfl xu8_I).trans (by rw [hL])) (k (uI s 3 v))
/-- changes of 0 -/
theorem xg_X11_164 (j : Nat) (ho : xok (L.map xk) h.2.1) (hj : L[j]? = some (0, b, f, s)) (hd : decode M.1 pc = .ok (.getfield 164, 3)) (hw : M.2.1 = RX11) (k : aS l d M n0 S0 Φ (pc + 3) lv (.int (s.1 1) :: st) (xw L h) e) : aS l d M n0 S0 Φ pc lv (.ref b :: st) (xw L h) e := s_get (by rw [hw]; exact fl_X11_164) hd (xw_at (o := 0) ho hj rfl) (xw_lt (o := 0) ho hj rfl) (show (xF0 b f s)[1]? = some (.int (s.1 1)) from rfl) k
theorem xp_X11_164 (j : Nat) {v : Int32} {F : RS → Option γ} (ho : xok (L.map xk) h.2.1) (hj : L[j]? = some (0, b, f, s)) (hL : ∀ s, L.set j (0, b, f, s) = L' s) (hd : decode M.1 pc = .ok (.putfield 164, 3)) (hw : M.2.1 = RX11) (k : ∀ s, aS l d M n0 S0 Φ (pc + 3) lv st (xw (L' s) h) (F s)) : aS l d M n0 S0 Φ pc lv (.int v :: .ref b :: st) (xw L h) (thn (uI s 1 v) F) := s_put (ty := .int) (by rw [hw]; exact fw_X11_164) hd (xw_at (o := 0) ho hj rfl) (xw_lt (o := 0) ho hj rfl) (by show 1 < 16; decide) (fun _ => rfl) (fun _ => rfl) ((xw_up (o := 0) (f' := f) (s' := uI s 1 v) (x := .inr (0, (xF0 b f s).set 1 (.int v))) ho hj rfl xu0_I).trans (by rw [hL])) (k (uI s 1 v))
/-- book of 7 -/
theorem xg_X11_174 (j : Nat) {a : Nat} (ho : xok (L.map xk) h.2.1) (hj : L[j]? = some (7, b, f, s)) (hd : decode M.1 pc = .ok (.getfield 174, 3)) (hw : M.2.1 = RX11) (hr : f 0 = some a) (k : aS l d M n0 S0 Φ (pc + 3) lv (.ref a :: st) (xw L h) e) : aS l d M n0 S0 Φ pc lv (.ref b :: st) (xw L h) e := s_get (by rw [hw]; exact fl_X11_174) hd (xw_at (o := 0) ho hj rfl) (xw_lt (o := 0) ho hj rfl) (show (xF7 b f s)[0]? = some (a_rf (f 0)) from rfl) (by rw [hr]; exact k)
theorem xgN_X11_174 (j : Nat) (ho : xok (L.map xk) h.2.1) (hj : L[j]? = some (7, b, f, s)) (hd : decode M.1 pc = .ok (.getfield 174, 3)) (hw : M.2.1 = RX11) (hr : f 0 = none) (k : aS l d M n0 S0 Φ (pc + 3) lv (.null :: st) (xw L h) e) : aS l d M n0 S0 Φ pc lv (.ref b :: st) (xw L h) e := s_get (by rw [hw]; exact fl_X11_174) hd (xw_at (o := 0) ho hj rfl) (xw_lt (o := 0) ho hj rfl) (show (xF7 b f s)[0]? = some (a_rf (f 0)) from rfl) (by rw [hr]; exact k)
theorem xp_X11_174 (j : Nat) {a : Nat} {L2 : List XR} (ho : xok (L.map xk) h.2.1) (hj : L[j]? = some (7, b, f, s)) (hL : L.set j (7, b, va_up f 0 (some a), s) = L2) (hd : decode M.1 pc = .ok (.putfield 174, 3)) (hw : M.2.1 = RX11) (k : aS l d M n0 S0 Φ (pc + 3) lv st (xw L2 h) e) : aS l d M n0 S0 Φ pc lv (.ref a :: .ref b :: st) (xw L h) e := s_put (ty := (.object "SwapBook$Book")) (by rw [hw]; exact fw_X11_174) hd (xw_at (o := 0) ho hj rfl) (xw_lt (o := 0) ho hj rfl) (by show 0 < 5; decide) (fun _ => rfl) (fun _ => rfl) ((xw_up (o := 0) (f' := va_up f 0 (some a)) (s' := s) (x := .inr (7, (xF7 b f s).set 0 (.ref a))) ho hj rfl xu7_R).trans (by rw [hL])) k
theorem xpN_X11_174 (j : Nat) {L2 : List XR} (ho : xok (L.map xk) h.2.1) (hj : L[j]? = some (7, b, f, s)) (hL : L.set j (7, b, va_up f 0 none, s) = L2) (hd : decode M.1 pc = .ok (.putfield 174, 3)) (hw : M.2.1 = RX11) (k : aS l d M n0 S0 Φ (pc + 3) lv st (xw L2 h) e) : aS l d M n0 S0 Φ pc lv (.null :: .ref b :: st) (xw L h) e := s_put (ty := (.object "SwapBook$Book")) (by rw [hw]; exact fw_X11_174) hd (xw_at (o := 0) ho hj rfl) (xw_lt (o := 0) ho hj rfl) (by show 0 < 5; decide) (fun _ => rfl) (fun _ => rfl) ((xw_up (o := 0) (f' := va_up f 0 none) (s' := s) (x := .inr (7, (xF7 b f s).set 0 .null)) ho hj rfl xu7_R).trans (by rw [hL])) k
/-- tokens of 11 -/
theorem xg_X11_18 (j : Nat) (ho : xok (L.map xk) h.2.1) (hj : L[j]? = some (11, b, f, s)) (hd : decode M.1 pc = .ok (.getfield 18, 3)) (hw : M.2.1 = RX11) (k : aS l d M n0 S0 Φ (pc + 3) lv (.ref (b + 2) :: st) (xw L h) e) : aS l d M n0 S0 Φ pc lv (.ref b :: st) (xw L h) e := s_get (by rw [hw]; exact fl_X11_18) hd (xw_at (o := 0) ho hj rfl) (xw_lt (o := 0) ho hj rfl) (show (xF11 b f s)[1]? = some (.ref (b + 2)) from rfl) k
/-- log of 7 -/
theorem xg_X11_185 (j : Nat) {a : Nat} (ho : xok (L.map xk) h.2.1) (hj : L[j]? = some (7, b, f, s)) (hd : decode M.1 pc = .ok (.getfield 185, 3)) (hw : M.2.1 = RX11) (hr : f 1 = some a) (k : aS l d M n0 S0 Φ (pc + 3) lv (.ref a :: st) (xw L h) e) : aS l d M n0 S0 Φ pc lv (.ref b :: st) (xw L h) e := s_get (by rw [hw]; exact fl_X11_185) hd (xw_at (o := 0) ho hj rfl) (xw_lt (o := 0) ho hj rfl) (show (xF7 b f s)[1]? = some (a_rf (f 1)) from rfl) (by rw [hr]; exact k)
theorem xgN_X11_185 (j : Nat) (ho : xok (L.map xk) h.2.1) (hj : L[j]? = some (7, b, f, s)) (hd : decode M.1 pc = .ok (.getfield 185, 3)) (hw : M.2.1 = RX11) (hr : f 1 = none) (k : aS l d M n0 S0 Φ (pc + 3) lv (.null :: st) (xw L h) e) : aS l d M n0 S0 Φ pc lv (.ref b :: st) (xw L h) e := s_get (by rw [hw]; exact fl_X11_185) hd (xw_at (o := 0) ho hj rfl) (xw_lt (o := 0) ho hj rfl) (show (xF7 b f s)[1]? = some (a_rf (f 1)) from rfl) (by rw [hr]; exact k)
theorem xp_X11_185 (j : Nat) {a : Nat} {L2 : List XR} (ho : xok (L.map xk) h.2.1) (hj : L[j]? = some (7, b, f, s)) (hL : L.set j (7, b, va_up f 1 (some a), s) = L2) (hd : decode M.1 pc = .ok (.putfield 185, 3)) (hw : M.2.1 = RX11) (k : aS l d M n0 S0 Φ (pc + 3) lv st (xw L2 h) e) : aS l d M n0 S0 Φ pc lv (.ref a :: .ref b :: st) (xw L h) e := s_put (ty := (.object "SwapBook$Log")) (by rw [hw]; exact fw_X11_185) hd (xw_at (o := 0) ho hj rfl) (xw_lt (o := 0) ho hj rfl) (by show 1 < 5; decide) (fun _ => rfl) (fun _ => rfl) ((xw_up (o := 0) (f' := va_up f 1 (some a)) (s' := s) (x := .inr (7, (xF7 b f s).set 1 (.ref a))) ho hj rfl xu7_R).trans (by rw [hL])) k
theorem xpN_X11_185 (j : Nat) {L2 : List XR} (ho : xok (L.map xk) h.2.1) (hj : L[j]? = some (7, b, f, s)) (hL : L.set j (7, b, va_up f 1 none, s) = L2) (hd : decode M.1 pc = .ok (.putfield 185, 3)) (hw : M.2.1 = RX11) (k : aS l d M n0 S0 Φ (pc + 3) lv st (xw L2 h) e) : aS l d M n0 S0 Φ pc lv (.null :: .ref b :: st) (xw L h) e := s_put (ty := (.object "SwapBook$Log")) (by rw [hw]; exact fw_X11_185) hd (xw_at (o := 0) ho hj rfl) (xw_lt (o := 0) ho hj rfl) (by show 1 < 5; decide) (fun _ => rfl) (fun _ => rfl) ((xw_up (o := 0) (f' := va_up f 1 none) (s' := s) (x := .inr (7, (xF7 b f s).set 1 .null)) ho hj rfl xu7_R).trans (by rw [hL])) k
/-- steps of 3 -/
theorem xg_X11_189 (j : Nat) (ho : xok (L.map xk) h.2.1) (hj : L[j]? = some (3, b, f, s)) (hd : decode M.1 pc = .ok (.getfield 189, 3)) (hw : M.2.1 = RX11) (k : aS l d M n0 S0 Φ (pc + 3) lv (.int (s.1 0) :: st) (xw L h) e) : aS l d M n0 S0 Φ pc lv (.ref b :: st) (xw L h) e := s_get (by rw [hw]; exact fl_X11_189) hd (xw_at (o := 0) ho hj rfl) (xw_lt (o := 0) ho hj rfl) (show (xF3 b f s)[0]? = some (.int (s.1 0)) from rfl) k
theorem xp_X11_189 (j : Nat) {v : Int32} {F : RS → Option γ} (ho : xok (L.map xk) h.2.1) (hj : L[j]? = some (3, b, f, s)) (hL : ∀ s, L.set j (3, b, f, s) = L' s) (hd : decode M.1 pc = .ok (.putfield 189, 3)) (hw : M.2.1 = RX11) (k : ∀ s, aS l d M n0 S0 Φ (pc + 3) lv st (xw (L' s) h) (F s)) : aS l d M n0 S0 Φ pc lv (.int v :: .ref b :: st) (xw L h) (thn (uI s 0 v) F) := s_put (ty := .int) (by rw [hw]; exact fw_X11_189) hd (xw_at (o := 0) ho hj rfl) (xw_lt (o := 0) ho hj rfl) (by show 0 < 8; decide) (fun _ => rfl) (fun _ => rfl) ((xw_up (o := 0) (f' := f) (s' := uI s 0 v) (x := .inr (3, (xF3 b f s).set 0 (.int v))) ho hj rfl xu3_I).trans (by rw [hL])) (k (uI s 0 v))
/-- faultPlace of 8 -/
theorem xg_X11_194 (j : Nat) (ho : xok (L.map xk) h.2.1) (hj : L[j]? = some (8, b, f, s)) (hd : decode M.1 pc = .ok (.getfield 194, 3)) (hw : M.2.1 = RX11) (k : aS l d M n0 S0 Φ (pc + 3) lv (.int (s.1 4) :: st) (xw L h) e) : aS l d M n0 S0 Φ pc lv (.ref b :: st) (xw L h) e := s_get (by rw [hw]; exact fl_X11_194) hd (xw_at (o := 0) ho hj rfl) (xw_lt (o := 0) ho hj rfl) (show (xF8 b f s)[4]? = some (.int (s.1 4)) from rfl) k
theorem xp_X11_194 (j : Nat) {v : Int32} {F : RS → Option γ} (ho : xok (L.map xk) h.2.1) (hj : L[j]? = some (8, b, f, s)) (hL : ∀ s, L.set j (8, b, f, s) = L' s) (hd : decode M.1 pc = .ok (.putfield 194, 3)) (hw : M.2.1 = RX11) (k : ∀ s, aS l d M n0 S0 Φ (pc + 3) lv st (xw (L' s) h) (F s)) : aS l d M n0 S0 Φ pc lv (.int v :: .ref b :: st) (xw L h) (thn (uI s 4 v) F) := s_put (ty := .int) (by rw [hw]; exact fw_X11_194) hd (xw_at (o := 0) ho hj rfl) (xw_lt (o := 0) ho hj rfl) (by show 4 < 11; decide) (fun _ => rfl) (fun _ => rfl) ((xw_up (o := 0) (f' := f) (s' := uI s 4 v) (x := .inr (8, (xF8 b f s).set 4 (.int v))) ho hj rfl xu8_I).trans (by rw [hL])) (k (uI s 4 v))
/-- islands of 0 -/
theorem xg_X11_197 (j : Nat) (ho : xok (L.map xk) h.2.1) (hj : L[j]? = some (0, b, f, s)) (hd : decode M.1 pc = .ok (.getfield 197, 3)) (hw : M.2.1 = RX11) (k : aS l d M n0 S0 Φ (pc + 3) lv (.int (s.1 0) :: st) (xw L h) e) : aS l d M n0 S0 Φ pc lv (.ref b :: st) (xw L h) e := s_get (by rw [hw]; exact fl_X11_197) hd (xw_at (o := 0) ho hj rfl) (xw_lt (o := 0) ho hj rfl) (show (xF0 b f s)[0]? = some (.int (s.1 0)) from rfl) k
theorem xp_X11_197 (j : Nat) {v : Int32} {F : RS → Option γ} (ho : xok (L.map xk) h.2.1) (hj : L[j]? = some (0, b, f, s)) (hL : ∀ s, L.set j (0, b, f, s) = L' s) (hd : decode M.1 pc = .ok (.putfield 197, 3)) (hw : M.2.1 = RX11) (k : ∀ s, aS l d M n0 S0 Φ (pc + 3) lv st (xw (L' s) h) (F s)) : aS l d M n0 S0 Φ pc lv (.int v :: .ref b :: st) (xw L h) (thn (uI s 0 v) F) := s_put (ty := .int) (by rw [hw]; exact fw_X11_197) hd (xw_at (o := 0) ho hj rfl) (xw_lt (o := 0) ho hj rfl) (by show 0 < 16; decide) (fun _ => rfl) (fun _ => rfl) ((xw_up (o := 0) (f' := f) (s' := uI s 0 v) (x := .inr (0, (xF0 b f s).set 0 (.int v))) ho hj rfl xu0_I).trans (by rw [hL])) (k (uI s 0 v))
/-- kinds of 0 -/
theorem xg_X11_215 (j : Nat) (ho : xok (L.map xk) h.2.1) (hj : L[j]? = some (0, b, f, s)) (hd : decode M.1 pc = .ok (.getfield 215, 3)) (hw : M.2.1 = RX11) (k : aS l d M n0 S0 Φ (pc + 3) lv (.ref (b + 3) :: st) (xw L h) e) : aS l d M n0 S0 Φ pc lv (.ref b :: st) (xw L h) e := s_get (by rw [hw]; exact fl_X11_215) hd (xw_at (o := 0) ho hj rfl) (xw_lt (o := 0) ho hj rfl) (show (xF0 b f s)[4]? = some (.ref (b + 3)) from rfl) k
/-- numbers of 0 -/
theorem xg_X11_218 (j : Nat) (ho : xok (L.map xk) h.2.1) (hj : L[j]? = some (0, b, f, s)) (hd : decode M.1 pc = .ok (.getfield 218, 3)) (hw : M.2.1 = RX11) (k : aS l d M n0 S0 Φ (pc + 3) lv (.ref (b + 4) :: st) (xw L h) e) : aS l d M n0 S0 Φ pc lv (.ref b :: st) (xw L h) e := s_get (by rw [hw]; exact fl_X11_218) hd (xw_at (o := 0) ho hj rfl) (xw_lt (o := 0) ho hj rfl) (show (xF0 b f s)[5]? = some (.ref (b + 4)) from rfl) k
/-- sayings of 0 -/
theorem xg_X11_223 (j : Nat) (ho : xok (L.map xk) h.2.1) (hj : L[j]? = some (0, b, f, s)) (hd : decode M.1 pc = .ok (.getfield 223, 3)) (hw : M.2.1 = RX11) (k : aS l d M n0 S0 Φ (pc + 3) lv (.ref (b + 5) :: st) (xw L h) e) : aS l d M n0 S0 Φ pc lv (.ref b :: st) (xw L h) e := s_get (by rw [hw]; exact fl_X11_223) hd (xw_at (o := 0) ho hj rfl) (xw_lt (o := 0) ho hj rfl) (show (xF0 b f s)[6]? = some (.ref (b + 5)) from rfl) k
/-- things of 0 -/
theorem xg_X11_226 (j : Nat) (ho : xok (L.map xk) h.2.1) (hj : L[j]? = some (0, b, f, s)) (hd : decode M.1 pc = .ok (.getfield 226, 3)) (hw : M.2.1 = RX11) (k : aS l d M n0 S0 Φ (pc + 3) lv (.ref (b + 6) :: st) (xw L h) e) : aS l d M n0 S0 Φ pc lv (.ref b :: st) (xw L h) e := s_get (by rw [hw]; exact fl_X11_226) hd (xw_at (o := 0) ho hj rfl) (xw_lt (o := 0) ho hj rfl) (show (xF0 b f s)[7]? = some (.ref (b + 6)) from rfl) k
/-- levels of 0 -/
theorem xg_X11_229 (j : Nat) (ho : xok (L.map xk) h.2.1) (hj : L[j]? = some (0, b, f, s)) (hd : decode M.1 pc = .ok (.getfield 229, 3)) (hw : M.2.1 = RX11) (k : aS l d M n0 S0 Φ (pc + 3) lv (.ref (b + 7) :: st) (xw L h) e) : aS l d M n0 S0 Φ pc lv (.ref b :: st) (xw L h) e := s_get (by rw [hw]; exact fl_X11_229) hd (xw_at (o := 0) ho hj rfl) (xw_lt (o := 0) ho hj rfl) (show (xF0 b f s)[8]? = some (.ref (b + 7)) from rfl) k
/-- direct of 0 -/
theorem xg_X11_232 (j : Nat) (ho : xok (L.map xk) h.2.1) (hj : L[j]? = some (0, b, f, s)) (hd : decode M.1 pc = .ok (.getfield 232, 3)) (hw : M.2.1 = RX11) (k : aS l d M n0 S0 Φ (pc + 3) lv (.ref (b + 8) :: st) (xw L h) e) : aS l d M n0 S0 Φ pc lv (.ref b :: st) (xw L h) e := s_get (by rw [hw]; exact fl_X11_232) hd (xw_at (o := 0) ho hj rfl) (xw_lt (o := 0) ho hj rfl) (show (xF0 b f s)[9]? = some (.ref (b + 8)) from rfl) k
/-- below of 0 -/
theorem xg_X11_235 (j : Nat) (ho : xok (L.map xk) h.2.1) (hj : L[j]? = some (0, b, f, s)) (hd : decode M.1 pc = .ok (.getfield 235, 3)) (hw : M.2.1 = RX11) (k : aS l d M n0 S0 Φ (pc + 3) lv (.ref (b + 9) :: st) (xw L h) e) : aS l d M n0 S0 Φ pc lv (.ref b :: st) (xw L h) e := s_get (by rw [hw]; exact fl_X11_235) hd (xw_at (o := 0) ho hj rfl) (xw_lt (o := 0) ho hj rfl) (show (xF0 b f s)[10]? = some (.ref (b + 9)) from rfl) k
/-- above of 0 -/
theorem xg_X11_238 (j : Nat) (ho : xok (L.map xk) h.2.1) (hj : L[j]? = some (0, b, f, s)) (hd : decode M.1 pc = .ok (.getfield 238, 3)) (hw : M.2.1 = RX11) (k : aS l d M n0 S0 Φ (pc + 3) lv (.ref (b + 10) :: st) (xw L h) e) : aS l d M n0 S0 Φ pc lv (.ref b :: st) (xw L h) e := s_get (by rw [hw]; exact fl_X11_238) hd (xw_at (o := 0) ho hj rfl) (xw_lt (o := 0) ho hj rfl) (show (xF0 b f s)[11]? = some (.ref (b + 10)) from rfl) k
/-- now of 11 -/
theorem xg_X11_25 (j : Nat) (ho : xok (L.map xk) h.2.1) (hj : L[j]? = some (11, b, f, s)) (hd : decode M.1 pc = .ok (.getfield 25, 3)) (hw : M.2.1 = RX11) (k : aS l d M n0 S0 Φ (pc + 3) lv (.ref (b + 8) :: st) (xw L h) e) : aS l d M n0 S0 Φ pc lv (.ref b :: st) (xw L h) e := s_get (by rw [hw]; exact fl_X11_25) hd (xw_at (o := 0) ho hj rfl) (xw_lt (o := 0) ho hj rfl) (show (xF11 b f s)[2]? = some (.ref (b + 8)) from rfl) k
/-- count of 2 -/
theorem xg_X11_269 (j : Nat) (ho : xok (L.map xk) h.2.1) (hj : L[j]? = some (2, b, f, s)) (hd : decode M.1 pc = .ok (.getfield 269, 3)) (hw : M.2.1 = RX11) (k : aS l d M n0 S0 Φ (pc + 3) lv (.int (s.1 0) :: st) (xw L h) e) : aS l d M n0 S0 Φ pc lv (.ref b :: st) (xw L h) e := s_get (by rw [hw]; exact fl_X11_269) hd (xw_at (o := 0) ho hj rfl) (xw_lt (o := 0) ho hj rfl) (show (xF2 b f s)[0]? = some (.int (s.1 0)) from rfl) k
theorem xp_X11_269 (j : Nat) {v : Int32} {F : RS → Option γ} (ho : xok (L.map xk) h.2.1) (hj : L[j]? = some (2, b, f, s)) (hL : ∀ s, L.set j (2, b, f, s) = L' s) (hd : decode M.1 pc = .ok (.putfield 269, 3)) (hw : M.2.1 = RX11) (k : ∀ s, aS l d M n0 S0 Φ (pc + 3) lv st (xw (L' s) h) (F s)) : aS l d M n0 S0 Φ pc lv (.int v :: .ref b :: st) (xw L h) (thn (uI s 0 v) F) := s_put (ty := .int) (by rw [hw]; exact fw_X11_269) hd (xw_at (o := 0) ho hj rfl) (xw_lt (o := 0) ho hj rfl) (by show 0 < 4; decide) (fun _ => rfl) (fun _ => rfl) ((xw_up (o := 0) (f' := f) (s' := uI s 0 v) (x := .inr (2, (xF2 b f s).set 0 (.int v))) ho hj rfl xu2_I).trans (by rw [hL])) (k (uI s 0 v))
/-- puts of 2 -/
theorem xg_X11_275 (j : Nat) (ho : xok (L.map xk) h.2.1) (hj : L[j]? = some (2, b, f, s)) (hd : decode M.1 pc = .ok (.getfield 275, 3)) (hw : M.2.1 = RX11) (k : aS l d M n0 S0 Φ (pc + 3) lv (.ref (b + 1) :: st) (xw L h) e) : aS l d M n0 S0 Φ pc lv (.ref b :: st) (xw L h) e := s_get (by rw [hw]; exact fl_X11_275) hd (xw_at (o := 0) ho hj rfl) (xw_lt (o := 0) ho hj rfl) (show (xF2 b f s)[1]? = some (.ref (b + 1)) from rfl) k
/-- sayings of 2 -/
theorem xg_X11_284 (j : Nat) (ho : xok (L.map xk) h.2.1) (hj : L[j]? = some (2, b, f, s)) (hd : decode M.1 pc = .ok (.getfield 284, 3)) (hw : M.2.1 = RX11) (k : aS l d M n0 S0 Φ (pc + 3) lv (.ref (b + 2) :: st) (xw L h) e) : aS l d M n0 S0 Φ pc lv (.ref b :: st) (xw L h) e := s_get (by rw [hw]; exact fl_X11_284) hd (xw_at (o := 0) ho hj rfl) (xw_lt (o := 0) ho hj rfl) (show (xF2 b f s)[2]? = some (.ref (b + 2)) from rfl) k
/-- keys of 2 -/
theorem xg_X11_285 (j : Nat) (ho : xok (L.map xk) h.2.1) (hj : L[j]? = some (2, b, f, s)) (hd : decode M.1 pc = .ok (.getfield 285, 3)) (hw : M.2.1 = RX11) (k : aS l d M n0 S0 Φ (pc + 3) lv (.ref (b + 3) :: st) (xw L h) e) : aS l d M n0 S0 Φ pc lv (.ref b :: st) (xw L h) e := s_get (by rw [hw]; exact fl_X11_285) hd (xw_at (o := 0) ho hj rfl) (xw_lt (o := 0) ho hj rfl) (show (xF2 b f s)[3]? = some (.ref (b + 3)) from rfl) k
/-- marks of 11 -/
theorem xg_X11_29 (j : Nat) (ho : xok (L.map xk) h.2.1) (hj : L[j]? = some (11, b, f, s)) (hd : decode M.1 pc = .ok (.getfield 29, 3)) (hw : M.2.1 = RX11) (k : aS l d M n0 S0 Φ (pc + 3) lv (.ref (b + 25) :: st) (xw L h) e) : aS l d M n0 S0 Φ pc lv (.ref b :: st) (xw L h) e := s_get (by rw [hw]; exact fl_X11_29) hd (xw_at (o := 0) ho hj rfl) (xw_lt (o := 0) ho hj rfl) (show (xF11 b f s)[3]? = some (.ref (b + 25)) from rfl) k
/-- order of 7 -/
theorem xg_X11_337 (j : Nat) (ho : xok (L.map xk) h.2.1) (hj : L[j]? = some (7, b, f, s)) (hd : decode M.1 pc = .ok (.getfield 337, 3)) (hw : M.2.1 = RX11) (k : aS l d M n0 S0 Φ (pc + 3) lv (.ref (b + 16) :: st) (xw L h) e) : aS l d M n0 S0 Φ pc lv (.ref b :: st) (xw L h) e := s_get (by rw [hw]; exact fl_X11_337) hd (xw_at (o := 0) ho hj rfl) (xw_lt (o := 0) ho hj rfl) (show (xF7 b f s)[3]? = some (.ref (b + 16)) from rfl) k
/-- orderLength of 7 -/
theorem xg_X11_344 (j : Nat) (ho : xok (L.map xk) h.2.1) (hj : L[j]? = some (7, b, f, s)) (hd : decode M.1 pc = .ok (.getfield 344, 3)) (hw : M.2.1 = RX11) (k : aS l d M n0 S0 Φ (pc + 3) lv (.int (s.1 4) :: st) (xw L h) e) : aS l d M n0 S0 Φ pc lv (.ref b :: st) (xw L h) e := s_get (by rw [hw]; exact fl_X11_344) hd (xw_at (o := 0) ho hj rfl) (xw_lt (o := 0) ho hj rfl) (show (xF7 b f s)[4]? = some (.int (s.1 4)) from rfl) k
theorem xp_X11_344 (j : Nat) {v : Int32} {F : RS → Option γ} (ho : xok (L.map xk) h.2.1) (hj : L[j]? = some (7, b, f, s)) (hL : ∀ s, L.set j (7, b, f, s) = L' s) (hd : decode M.1 pc = .ok (.putfield 344, 3)) (hw : M.2.1 = RX11) (k : ∀ s, aS l d M n0 S0 Φ (pc + 3) lv st (xw (L' s) h) (F s)) : aS l d M n0 S0 Φ pc lv (.int v :: .ref b :: st) (xw L h) (thn (uI s 4 v) F) := s_put (ty := .int) (by rw [hw]; exact fw_X11_344) hd (xw_at (o := 0) ho hj rfl) (xw_lt (o := 0) ho hj rfl) (by show 4 < 5; decide) (fun _ => rfl) (fun _ => rfl) ((xw_up (o := 0) (f' := f) (s' := uI s 4 v) (x := .inr (7, (xF7 b f s).set 4 (.int v))) ho hj rfl xu7_I).trans (by rw [hL])) (k (uI s 4 v))
/-- listing of 11 -/
theorem xg_X11_36 (j : Nat) (ho : xok (L.map xk) h.2.1) (hj : L[j]? = some (11, b, f, s)) (hd : decode M.1 pc = .ok (.getfield 36, 3)) (hw : M.2.1 = RX11) (k : aS l d M n0 S0 Φ (pc + 3) lv (.ref (b + 26) :: st) (xw L h) e) : aS l d M n0 S0 Φ pc lv (.ref b :: st) (xw L h) e := s_get (by rw [hw]; exact fl_X11_36) hd (xw_at (o := 0) ho hj rfl) (xw_lt (o := 0) ho hj rfl) (show (xF11 b f s)[4]? = some (.ref (b + 26)) from rfl) k
/-- has of 7 -/
theorem xg_X11_379 (j : Nat) (ho : xok (L.map xk) h.2.1) (hj : L[j]? = some (7, b, f, s)) (hd : decode M.1 pc = .ok (.getfield 379, 3)) (hw : M.2.1 = RX11) (k : aS l d M n0 S0 Φ (pc + 3) lv (.ref (b + 15) :: st) (xw L h) e) : aS l d M n0 S0 Φ pc lv (.ref b :: st) (xw L h) e := s_get (by rw [hw]; exact fl_X11_379) hd (xw_at (o := 0) ho hj rfl) (xw_lt (o := 0) ho hj rfl) (show (xF7 b f s)[2]? = some (.ref (b + 15)) from rfl) k
/-- has of 10 -/
theorem xg_X11_386 (j : Nat) (ho : xok (L.map xk) h.2.1) (hj : L[j]? = some (10, b, f, s)) (hd : decode M.1 pc = .ok (.getfield 386, 3)) (hw : M.2.1 = RX11) (k : aS l d M n0 S0 Φ (pc + 3) lv (.ref (b + 1) :: st) (xw L h) e) : aS l d M n0 S0 Φ pc lv (.ref b :: st) (xw L h) e := s_get (by rw [hw]; exact fl_X11_386) hd (xw_at (o := 0) ho hj rfl) (xw_lt (o := 0) ho hj rfl) (show (xF10 b f s)[0]? = some (.ref (b + 1)) from rfl) k
/-- day of 10 -/
theorem xg_X11_387 (j : Nat) (ho : xok (L.map xk) h.2.1) (hj : L[j]? = some (10, b, f, s)) (hd : decode M.1 pc = .ok (.getfield 387, 3)) (hw : M.2.1 = RX11) (k : aS l d M n0 S0 Φ (pc + 3) lv (.int (s.1 2) :: st) (xw L h) e) : aS l d M n0 S0 Φ pc lv (.ref b :: st) (xw L h) e := s_get (by rw [hw]; exact fl_X11_387) hd (xw_at (o := 0) ho hj rfl) (xw_lt (o := 0) ho hj rfl) (show (xF10 b f s)[2]? = some (.int (s.1 2)) from rfl) k
theorem xp_X11_387 (j : Nat) {v : Int32} {F : RS → Option γ} (ho : xok (L.map xk) h.2.1) (hj : L[j]? = some (10, b, f, s)) (hL : ∀ s, L.set j (10, b, f, s) = L' s) (hd : decode M.1 pc = .ok (.putfield 387, 3)) (hw : M.2.1 = RX11) (k : ∀ s, aS l d M n0 S0 Φ (pc + 3) lv st (xw (L' s) h) (F s)) : aS l d M n0 S0 Φ pc lv (.int v :: .ref b :: st) (xw L h) (thn (uI s 2 v) F) := s_put (ty := .int) (by rw [hw]; exact fw_X11_387) hd (xw_at (o := 0) ho hj rfl) (xw_lt (o := 0) ho hj rfl) (by show 2 < 16; decide) (fun _ => rfl) (fun _ => rfl) ((xw_up (o := 0) (f' := f) (s' := uI s 2 v) (x := .inr (10, (xF10 b f s).set 2 (.int v))) ho hj rfl xu10_I).trans (by rw [hL])) (k (uI s 2 v))
/-- missed of 10 -/
theorem xg_X11_390 (j : Nat) (ho : xok (L.map xk) h.2.1) (hj : L[j]? = some (10, b, f, s)) (hd : decode M.1 pc = .ok (.getfield 390, 3)) (hw : M.2.1 = RX11) (k : aS l d M n0 S0 Φ (pc + 3) lv (.int (s.1 3) :: st) (xw L h) e) : aS l d M n0 S0 Φ pc lv (.ref b :: st) (xw L h) e := s_get (by rw [hw]; exact fl_X11_390) hd (xw_at (o := 0) ho hj rfl) (xw_lt (o := 0) ho hj rfl) (show (xF10 b f s)[3]? = some (.int (s.1 3)) from rfl) k
theorem xp_X11_390 (j : Nat) {v : Int32} {F : RS → Option γ} (ho : xok (L.map xk) h.2.1) (hj : L[j]? = some (10, b, f, s)) (hL : ∀ s, L.set j (10, b, f, s) = L' s) (hd : decode M.1 pc = .ok (.putfield 390, 3)) (hw : M.2.1 = RX11) (k : ∀ s, aS l d M n0 S0 Φ (pc + 3) lv st (xw (L' s) h) (F s)) : aS l d M n0 S0 Φ pc lv (.int v :: .ref b :: st) (xw L h) (thn (uI s 3 v) F) := s_put (ty := .int) (by rw [hw]; exact fw_X11_390) hd (xw_at (o := 0) ho hj rfl) (xw_lt (o := 0) ho hj rfl) (by show 3 < 16; decide) (fun _ => rfl) (fun _ => rfl) ((xw_up (o := 0) (f' := f) (s' := uI s 3 v) (x := .inr (10, (xF10 b f s).set 3 (.int v))) ho hj rfl xu10_I).trans (by rw [hL])) (k (uI s 3 v))
/-- came of 10 -/
theorem xg_X11_393 (j : Nat) (ho : xok (L.map xk) h.2.1) (hj : L[j]? = some (10, b, f, s)) (hd : decode M.1 pc = .ok (.getfield 393, 3)) (hw : M.2.1 = RX11) (k : aS l d M n0 S0 Φ (pc + 3) lv (.int (s.1 4) :: st) (xw L h) e) : aS l d M n0 S0 Φ pc lv (.ref b :: st) (xw L h) e := s_get (by rw [hw]; exact fl_X11_393) hd (xw_at (o := 0) ho hj rfl) (xw_lt (o := 0) ho hj rfl) (show (xF10 b f s)[4]? = some (.int (s.1 4)) from rfl) k
theorem xp_X11_393 (j : Nat) {v : Int32} {F : RS → Option γ} (ho : xok (L.map xk) h.2.1) (hj : L[j]? = some (10, b, f, s)) (hL : ∀ s, L.set j (10, b, f, s) = L' s) (hd : decode M.1 pc = .ok (.putfield 393, 3)) (hw : M.2.1 = RX11) (k : ∀ s, aS l d M n0 S0 Φ (pc + 3) lv st (xw (L' s) h) (F s)) : aS l d M n0 S0 Φ pc lv (.int v :: .ref b :: st) (xw L h) (thn (uI s 4 v) F) := s_put (ty := .int) (by rw [hw]; exact fw_X11_393) hd (xw_at (o := 0) ho hj rfl) (xw_lt (o := 0) ho hj rfl) (by show 4 < 16; decide) (fun _ => rfl) (fun _ => rfl) ((xw_up (o := 0) (f' := f) (s' := uI s 4 v) (x := .inr (10, (xF10 b f s).set 4 (.int v))) ho hj rfl xu10_I).trans (by rw [hL])) (k (uI s 4 v))
/-- lost of 10 -/
theorem xg_X11_396 (j : Nat) (ho : xok (L.map xk) h.2.1) (hj : L[j]? = some (10, b, f, s)) (hd : decode M.1 pc = .ok (.getfield 396, 3)) (hw : M.2.1 = RX11) (k : aS l d M n0 S0 Φ (pc + 3) lv (.int (s.1 5) :: st) (xw L h) e) : aS l d M n0 S0 Φ pc lv (.ref b :: st) (xw L h) e := s_get (by rw [hw]; exact fl_X11_396) hd (xw_at (o := 0) ho hj rfl) (xw_lt (o := 0) ho hj rfl) (show (xF10 b f s)[5]? = some (.int (s.1 5)) from rfl) k
theorem xp_X11_396 (j : Nat) {v : Int32} {F : RS → Option γ} (ho : xok (L.map xk) h.2.1) (hj : L[j]? = some (10, b, f, s)) (hL : ∀ s, L.set j (10, b, f, s) = L' s) (hd : decode M.1 pc = .ok (.putfield 396, 3)) (hw : M.2.1 = RX11) (k : ∀ s, aS l d M n0 S0 Φ (pc + 3) lv st (xw (L' s) h) (F s)) : aS l d M n0 S0 Φ pc lv (.int v :: .ref b :: st) (xw L h) (thn (uI s 5 v) F) := s_put (ty := .int) (by rw [hw]; exact fw_X11_396) hd (xw_at (o := 0) ho hj rfl) (xw_lt (o := 0) ho hj rfl) (by show 5 < 16; decide) (fun _ => rfl) (fun _ => rfl) ((xw_up (o := 0) (f' := f) (s' := uI s 5 v) (x := .inr (10, (xF10 b f s).set 5 (.int v))) ho hj rfl xu10_I).trans (by rw [hL])) (k (uI s 5 v))
/-- cargoes of 10 -/
theorem xg_X11_399 (j : Nat) (ho : xok (L.map xk) h.2.1) (hj : L[j]? = some (10, b, f, s)) (hd : decode M.1 pc = .ok (.getfield 399, 3)) (hw : M.2.1 = RX11) (k : aS l d M n0 S0 Φ (pc + 3) lv (.int (s.1 6) :: st) (xw L h) e) : aS l d M n0 S0 Φ pc lv (.ref b :: st) (xw L h) e := s_get (by rw [hw]; exact fl_X11_399) hd (xw_at (o := 0) ho hj rfl) (xw_lt (o := 0) ho hj rfl) (show (xF10 b f s)[6]? = some (.int (s.1 6)) from rfl) k
theorem xp_X11_399 (j : Nat) {v : Int32} {F : RS → Option γ} (ho : xok (L.map xk) h.2.1) (hj : L[j]? = some (10, b, f, s)) (hL : ∀ s, L.set j (10, b, f, s) = L' s) (hd : decode M.1 pc = .ok (.putfield 399, 3)) (hw : M.2.1 = RX11) (k : ∀ s, aS l d M n0 S0 Φ (pc + 3) lv st (xw (L' s) h) (F s)) : aS l d M n0 S0 Φ pc lv (.int v :: .ref b :: st) (xw L h) (thn (uI s 6 v) F) := s_put (ty := .int) (by rw [hw]; exact fw_X11_399) hd (xw_at (o := 0) ho hj rfl) (xw_lt (o := 0) ho hj rfl) (by show 6 < 16; decide) (fun _ => rfl) (fun _ => rfl) ((xw_up (o := 0) (f' := f) (s' := uI s 6 v) (x := .inr (10, (xF10 b f s).set 6 (.int v))) ho hj rfl xu10_I).trans (by rw [hL])) (k (uI s 6 v))
/-- otherListing of 11 -/
theorem xg_X11_40 (j : Nat) (ho : xok (L.map xk) h.2.1) (hj : L[j]? = some (11, b, f, s)) (hd : decode M.1 pc = .ok (.getfield 40, 3)) (hw : M.2.1 = RX11) (k : aS l d M n0 S0 Φ (pc + 3) lv (.ref (b + 30) :: st) (xw L h) e) : aS l d M n0 S0 Φ pc lv (.ref b :: st) (xw L h) e := s_get (by rw [hw]; exact fl_X11_40) hd (xw_at (o := 0) ho hj rfl) (xw_lt (o := 0) ho hj rfl) (show (xF11 b f s)[5]? = some (.ref (b + 30)) from rfl) k
/-- steps of 10 -/
theorem xg_X11_402 (j : Nat) (ho : xok (L.map xk) h.2.1) (hj : L[j]? = some (10, b, f, s)) (hd : decode M.1 pc = .ok (.getfield 402, 3)) (hw : M.2.1 = RX11) (k : aS l d M n0 S0 Φ (pc + 3) lv (.int (s.1 1) :: st) (xw L h) e) : aS l d M n0 S0 Φ pc lv (.ref b :: st) (xw L h) e := s_get (by rw [hw]; exact fl_X11_402) hd (xw_at (o := 0) ho hj rfl) (xw_lt (o := 0) ho hj rfl) (show (xF10 b f s)[1]? = some (.int (s.1 1)) from rfl) k
theorem xp_X11_402 (j : Nat) {v : Int32} {F : RS → Option γ} (ho : xok (L.map xk) h.2.1) (hj : L[j]? = some (10, b, f, s)) (hL : ∀ s, L.set j (10, b, f, s) = L' s) (hd : decode M.1 pc = .ok (.putfield 402, 3)) (hw : M.2.1 = RX11) (k : ∀ s, aS l d M n0 S0 Φ (pc + 3) lv st (xw (L' s) h) (F s)) : aS l d M n0 S0 Φ pc lv (.int v :: .ref b :: st) (xw L h) (thn (uI s 1 v) F) := s_put (ty := .int) (by rw [hw]; exact fw_X11_402) hd (xw_at (o := 0) ho hj rfl) (xw_lt (o := 0) ho hj rfl) (by show 1 < 16; decide) (fun _ => rfl) (fun _ => rfl) ((xw_up (o := 0) (f' := f) (s' := uI s 1 v) (x := .inr (10, (xF10 b f s).set 1 (.int v))) ho hj rfl xu10_I).trans (by rw [hL])) (k (uI s 1 v))
/-- counter of 11 -/
theorem xg_X11_46 (j : Nat) (ho : xok (L.map xk) h.2.1) (hj : L[j]? = some (11, b, f, s)) (hd : decode M.1 pc = .ok (.getfield 46, 3)) (hw : M.2.1 = RX11) (k : aS l d M n0 S0 Φ (pc + 3) lv (.ref (b + 34) :: st) (xw L h) e) : aS l d M n0 S0 Φ pc lv (.ref b :: st) (xw L h) e := s_get (by rw [hw]; exact fl_X11_46) hd (xw_at (o := 0) ho hj rfl) (xw_lt (o := 0) ho hj rfl) (show (xF11 b f s)[6]? = some (.ref (b + 34)) from rfl) k
/-- voyage of 11 -/
theorem xg_X11_53 (j : Nat) (ho : xok (L.map xk) h.2.1) (hj : L[j]? = some (11, b, f, s)) (hd : decode M.1 pc = .ok (.getfield 53, 3)) (hw : M.2.1 = RX11) (k : aS l d M n0 S0 Φ (pc + 3) lv (.ref (b + 50) :: st) (xw L h) e) : aS l d M n0 S0 Φ pc lv (.ref b :: st) (xw L h) e := s_get (by rw [hw]; exact fl_X11_53) hd (xw_at (o := 0) ho hj rfl) (xw_lt (o := 0) ho hj rfl) (show (xF11 b f s)[7]? = some (.ref (b + 50)) from rfl) k
/-- lastVoyage of 11 -/
theorem xg_X11_57 (j : Nat) (ho : xok (L.map xk) h.2.1) (hj : L[j]? = some (11, b, f, s)) (hd : decode M.1 pc = .ok (.getfield 57, 3)) (hw : M.2.1 = RX11) (k : aS l d M n0 S0 Φ (pc + 3) lv (.ref (b + 78) :: st) (xw L h) e) : aS l d M n0 S0 Φ pc lv (.ref b :: st) (xw L h) e := s_get (by rw [hw]; exact fl_X11_57) hd (xw_at (o := 0) ho hj rfl) (xw_lt (o := 0) ho hj rfl) (show (xF11 b f s)[8]? = some (.ref (b + 78)) from rfl) k
/-- hasSailed of 11 -/
theorem xg_X11_61 (j : Nat) (ho : xok (L.map xk) h.2.1) (hj : L[j]? = some (11, b, f, s)) (hd : decode M.1 pc = .ok (.getfield 61, 3)) (hw : M.2.1 = RX11) (k : aS l d M n0 S0 Φ (pc + 3) lv (.int (s.1 9) :: st) (xw L h) e) : aS l d M n0 S0 Φ pc lv (.ref b :: st) (xw L h) e := s_get (by rw [hw]; exact fl_X11_61) hd (xw_at (o := 0) ho hj rfl) (xw_lt (o := 0) ho hj rfl) (show (xF11 b f s)[9]? = some (.int (s.1 9)) from rfl) k
theorem xp_X11_61 (j : Nat) {v : Int32} {F : RS → Option γ} (hz : narrow .boolean (.int v) = .int v ∧ fits .boolean (.int v) = true) (ho : xok (L.map xk) h.2.1) (hj : L[j]? = some (11, b, f, s)) (hL : ∀ s, L.set j (11, b, f, s) = L' s) (hd : decode M.1 pc = .ok (.putfield 61, 3)) (hw : M.2.1 = RX11) (k : ∀ s, aS l d M n0 S0 Φ (pc + 3) lv st (xw (L' s) h) (F s)) : aS l d M n0 S0 Φ pc lv (.int v :: .ref b :: st) (xw L h) (thn (uI s 9 v) F) := s_put (ty := .boolean) (by rw [hw]; exact fw_X11_61) hd (xw_at (o := 0) ho hj rfl) (xw_lt (o := 0) ho hj rfl) (by show 9 < 14; decide) (fun _ => hz.1) (fun _ => hz.2) ((xw_up (o := 0) (f' := f) (s' := uI s 9 v) (x := .inr (11, (xF11 b f s).set 9 (.int v))) ho hj rfl xu11_I).trans (by rw [hL])) (k (uI s 9 v))
/-- markCount of 11 -/
theorem xg_X11_65 (j : Nat) (ho : xok (L.map xk) h.2.1) (hj : L[j]? = some (11, b, f, s)) (hd : decode M.1 pc = .ok (.getfield 65, 3)) (hw : M.2.1 = RX11) (k : aS l d M n0 S0 Φ (pc + 3) lv (.int (s.1 10) :: st) (xw L h) e) : aS l d M n0 S0 Φ pc lv (.ref b :: st) (xw L h) e := s_get (by rw [hw]; exact fl_X11_65) hd (xw_at (o := 0) ho hj rfl) (xw_lt (o := 0) ho hj rfl) (show (xF11 b f s)[10]? = some (.int (s.1 10)) from rfl) k
theorem xp_X11_65 (j : Nat) {v : Int32} {F : RS → Option γ} (ho : xok (L.map xk) h.2.1) (hj : L[j]? = some (11, b, f, s)) (hL : ∀ s, L.set j (11, b, f, s) = L' s) (hd : decode M.1 pc = .ok (.putfield 65, 3)) (hw : M.2.1 = RX11) (k : ∀ s, aS l d M n0 S0 Φ (pc + 3) lv st (xw (L' s) h) (F s)) : aS l d M n0 S0 Φ pc lv (.int v :: .ref b :: st) (xw L h) (thn (uI s 10 v) F) := s_put (ty := .int) (by rw [hw]; exact fw_X11_65) hd (xw_at (o := 0) ho hj rfl) (xw_lt (o := 0) ho hj rfl) (by show 10 < 14; decide) (fun _ => rfl) (fun _ => rfl) ((xw_up (o := 0) (f' := f) (s' := uI s 10 v) (x := .inr (11, (xF11 b f s).set 10 (.int v))) ho hj rfl xu11_I).trans (by rw [hL])) (k (uI s 10 v))
/-- status of 11 -/
theorem xg_X11_69 (j : Nat) (ho : xok (L.map xk) h.2.1) (hj : L[j]? = some (11, b, f, s)) (hd : decode M.1 pc = .ok (.getfield 69, 3)) (hw : M.2.1 = RX11) (k : aS l d M n0 S0 Φ (pc + 3) lv (.int (s.1 11) :: st) (xw L h) e) : aS l d M n0 S0 Φ pc lv (.ref b :: st) (xw L h) e := s_get (by rw [hw]; exact fl_X11_69) hd (xw_at (o := 0) ho hj rfl) (xw_lt (o := 0) ho hj rfl) (show (xF11 b f s)[11]? = some (.int (s.1 11)) from rfl) k
theorem xp_X11_69 (j : Nat) {v : Int32} {F : RS → Option γ} (ho : xok (L.map xk) h.2.1) (hj : L[j]? = some (11, b, f, s)) (hL : ∀ s, L.set j (11, b, f, s) = L' s) (hd : decode M.1 pc = .ok (.putfield 69, 3)) (hw : M.2.1 = RX11) (k : ∀ s, aS l d M n0 S0 Φ (pc + 3) lv st (xw (L' s) h) (F s)) : aS l d M n0 S0 Φ pc lv (.int v :: .ref b :: st) (xw L h) (thn (uI s 11 v) F) := s_put (ty := .int) (by rw [hw]; exact fw_X11_69) hd (xw_at (o := 0) ho hj rfl) (xw_lt (o := 0) ho hj rfl) (by show 11 < 14; decide) (fun _ => rfl) (fun _ => rfl) ((xw_up (o := 0) (f' := f) (s' := uI s 11 v) (x := .inr (11, (xF11 b f s).set 11 (.int v))) ho hj rfl xu11_I).trans (by rw [hL])) (k (uI s 11 v))
/-- top of 11 -/
theorem xg_X11_72 (j : Nat) (ho : xok (L.map xk) h.2.1) (hj : L[j]? = some (11, b, f, s)) (hd : decode M.1 pc = .ok (.getfield 72, 3)) (hw : M.2.1 = RX11) (k : aS l d M n0 S0 Φ (pc + 3) lv (.long (s.2.1 12) :: st) (xw L h) e) : aS l d M n0 S0 Φ pc lv (.ref b :: st) (xw L h) e := s_get (by rw [hw]; exact fl_X11_72) hd (xw_at (o := 0) ho hj rfl) (xw_lt (o := 0) ho hj rfl) (show (xF11 b f s)[12]? = some (.long (s.2.1 12)) from rfl) k
theorem xp_X11_72 (j : Nat) {v : Int64} {F : RS → Option γ} (ho : xok (L.map xk) h.2.1) (hj : L[j]? = some (11, b, f, s)) (hL : ∀ s, L.set j (11, b, f, s) = L' s) (hd : decode M.1 pc = .ok (.putfield 72, 3)) (hw : M.2.1 = RX11) (k : ∀ s, aS l d M n0 S0 Φ (pc + 3) lv st (xw (L' s) h) (F s)) : aS l d M n0 S0 Φ pc lv (.long v :: .ref b :: st) (xw L h) (thn (uL s 12 v) F) := s_put (ty := .long) (by rw [hw]; exact fw_X11_72) hd (xw_at (o := 0) ho hj rfl) (xw_lt (o := 0) ho hj rfl) (by show 12 < 14; decide) (fun _ => rfl) (fun _ => rfl) ((xw_up (o := 0) (f' := f) (s' := uL s 12 v) (x := .inr (11, (xF11 b f s).set 12 (.long v))) ho hj rfl xu11_L).trans (by rw [hL])) (k (uL s 12 v))
/-- bottom of 11 -/
theorem xg_X11_76 (j : Nat) (ho : xok (L.map xk) h.2.1) (hj : L[j]? = some (11, b, f, s)) (hd : decode M.1 pc = .ok (.getfield 76, 3)) (hw : M.2.1 = RX11) (k : aS l d M n0 S0 Φ (pc + 3) lv (.long (s.2.1 13) :: st) (xw L h) e) : aS l d M n0 S0 Φ pc lv (.ref b :: st) (xw L h) e := s_get (by rw [hw]; exact fl_X11_76) hd (xw_at (o := 0) ho hj rfl) (xw_lt (o := 0) ho hj rfl) (show (xF11 b f s)[13]? = some (.long (s.2.1 13)) from rfl) k
theorem xp_X11_76 (j : Nat) {v : Int64} {F : RS → Option γ} (ho : xok (L.map xk) h.2.1) (hj : L[j]? = some (11, b, f, s)) (hL : ∀ s, L.set j (11, b, f, s) = L' s) (hd : decode M.1 pc = .ok (.putfield 76, 3)) (hw : M.2.1 = RX11) (k : ∀ s, aS l d M n0 S0 Φ (pc + 3) lv st (xw (L' s) h) (F s)) : aS l d M n0 S0 Φ pc lv (.long v :: .ref b :: st) (xw L h) (thn (uL s 13 v) F) := s_put (ty := .long) (by rw [hw]; exact fw_X11_76) hd (xw_at (o := 0) ho hj rfl) (xw_lt (o := 0) ho hj rfl) (by show 13 < 14; decide) (fun _ => rfl) (fun _ => rfl) ((xw_up (o := 0) (f' := f) (s' := uL s 13 v) (x := .inr (11, (xF11 b f s).set 13 (.long v))) ho hj rfl xu11_L).trans (by rw [hL])) (k (uL s 13 v))
/-- things of 0 -/
theorem xg_X1_108 (j : Nat) (ho : xok (L.map xk) h.2.1) (hj : L[j]? = some (0, b, f, s)) (hd : decode M.1 pc = .ok (.getfield 108, 3)) (hw : M.2.1 = RX1) (k : aS l d M n0 S0 Φ (pc + 3) lv (.ref (b + 6) :: st) (xw L h) e) : aS l d M n0 S0 Φ pc lv (.ref b :: st) (xw L h) e := s_get (by rw [hw]; exact fl_X1_108) hd (xw_at (o := 0) ho hj rfl) (xw_lt (o := 0) ho hj rfl) (show (xF0 b f s)[7]? = some (.ref (b + 6)) from rfl) k
/-- book of 1 -/
theorem xg_X1_12 (j : Nat) {a : Nat} (ho : xok (L.map xk) h.2.1) (hj : L[j]? = some (1, b, f, s)) (hd : decode M.1 pc = .ok (.getfield 12, 3)) (hw : M.2.1 = RX1) (hr : f 1 = some a) (k : aS l d M n0 S0 Φ (pc + 3) lv (.ref a :: st) (xw L h) e) : aS l d M n0 S0 Φ pc lv (.ref b :: st) (xw L h) e := s_get (by rw [hw]; exact fl_X1_12) hd (xw_at (o := 0) ho hj rfl) (xw_lt (o := 0) ho hj rfl) (show (xF1 b f s)[1]? = some (a_rf (f 1)) from rfl) (by rw [hr]; exact k)
theorem xgN_X1_12 (j : Nat) (ho : xok (L.map xk) h.2.1) (hj : L[j]? = some (1, b, f, s)) (hd : decode M.1 pc = .ok (.getfield 12, 3)) (hw : M.2.1 = RX1) (hr : f 1 = none) (k : aS l d M n0 S0 Φ (pc + 3) lv (.null :: st) (xw L h) e) : aS l d M n0 S0 Φ pc lv (.ref b :: st) (xw L h) e := s_get (by rw [hw]; exact fl_X1_12) hd (xw_at (o := 0) ho hj rfl) (xw_lt (o := 0) ho hj rfl) (show (xF1 b f s)[1]? = some (a_rf (f 1)) from rfl) (by rw [hr]; exact k)
/-- sayings of 0 -/
theorem xg_X1_127 (j : Nat) (ho : xok (L.map xk) h.2.1) (hj : L[j]? = some (0, b, f, s)) (hd : decode M.1 pc = .ok (.getfield 127, 3)) (hw : M.2.1 = RX1) (k : aS l d M n0 S0 Φ (pc + 3) lv (.ref (b + 5) :: st) (xw L h) e) : aS l d M n0 S0 Φ pc lv (.ref b :: st) (xw L h) e := s_get (by rw [hw]; exact fl_X1_127) hd (xw_at (o := 0) ho hj rfl) (xw_lt (o := 0) ho hj rfl) (show (xF0 b f s)[6]? = some (.ref (b + 5)) from rfl) k
/-- direct of 0 -/
theorem xg_X1_134 (j : Nat) (ho : xok (L.map xk) h.2.1) (hj : L[j]? = some (0, b, f, s)) (hd : decode M.1 pc = .ok (.getfield 134, 3)) (hw : M.2.1 = RX1) (k : aS l d M n0 S0 Φ (pc + 3) lv (.ref (b + 8) :: st) (xw L h) e) : aS l d M n0 S0 Φ pc lv (.ref b :: st) (xw L h) e := s_get (by rw [hw]; exact fl_X1_134) hd (xw_at (o := 0) ho hj rfl) (xw_lt (o := 0) ho hj rfl) (show (xF0 b f s)[9]? = some (.ref (b + 8)) from rfl) k
/-- foes of 0 -/
theorem xg_X1_137 (j : Nat) (ho : xok (L.map xk) h.2.1) (hj : L[j]? = some (0, b, f, s)) (hd : decode M.1 pc = .ok (.getfield 137, 3)) (hw : M.2.1 = RX1) (k : aS l d M n0 S0 Φ (pc + 3) lv (.ref (b + 11) :: st) (xw L h) e) : aS l d M n0 S0 Φ pc lv (.ref b :: st) (xw L h) e := s_get (by rw [hw]; exact fl_X1_137) hd (xw_at (o := 0) ho hj rfl) (xw_lt (o := 0) ho hj rfl) (show (xF0 b f s)[12]? = some (.ref (b + 11)) from rfl) k
/-- winners of 0 -/
theorem xg_X1_143 (j : Nat) (ho : xok (L.map xk) h.2.1) (hj : L[j]? = some (0, b, f, s)) (hd : decode M.1 pc = .ok (.getfield 143, 3)) (hw : M.2.1 = RX1) (k : aS l d M n0 S0 Φ (pc + 3) lv (.ref (b + 12) :: st) (xw L h) e) : aS l d M n0 S0 Φ pc lv (.ref b :: st) (xw L h) e := s_get (by rw [hw]; exact fl_X1_143) hd (xw_at (o := 0) ho hj rfl) (xw_lt (o := 0) ho hj rfl) (show (xF0 b f s)[13]? = some (.ref (b + 12)) from rfl) k
/-- losers of 0 -/
theorem xg_X1_146 (j : Nat) (ho : xok (L.map xk) h.2.1) (hj : L[j]? = some (0, b, f, s)) (hd : decode M.1 pc = .ok (.getfield 146, 3)) (hw : M.2.1 = RX1) (k : aS l d M n0 S0 Φ (pc + 3) lv (.ref (b + 13) :: st) (xw L h) e) : aS l d M n0 S0 Φ pc lv (.ref b :: st) (xw L h) e := s_get (by rw [hw]; exact fl_X1_146) hd (xw_at (o := 0) ho hj rfl) (xw_lt (o := 0) ho hj rfl) (show (xF0 b f s)[14]? = some (.ref (b + 13)) from rfl) k
/-- tokens of 1 -/
theorem xg_X1_18 (j : Nat) {a : Nat} (ho : xok (L.map xk) h.2.1) (hj : L[j]? = some (1, b, f, s)) (hd : decode M.1 pc = .ok (.getfield 18, 3)) (hw : M.2.1 = RX1) (hr : f 0 = some a) (k : aS l d M n0 S0 Φ (pc + 3) lv (.ref a :: st) (xw L h) e) : aS l d M n0 S0 Φ pc lv (.ref b :: st) (xw L h) e := s_get (by rw [hw]; exact fl_X1_18) hd (xw_at (o := 0) ho hj rfl) (xw_lt (o := 0) ho hj rfl) (show (xF1 b f s)[0]? = some (a_rf (f 0)) from rfl) (by rw [hr]; exact k)
theorem xgN_X1_18 (j : Nat) (ho : xok (L.map xk) h.2.1) (hj : L[j]? = some (1, b, f, s)) (hd : decode M.1 pc = .ok (.getfield 18, 3)) (hw : M.2.1 = RX1) (hr : f 0 = none) (k : aS l d M n0 S0 Φ (pc + 3) lv (.null :: st) (xw L h) e) : aS l d M n0 S0 Φ pc lv (.ref b :: st) (xw L h) e := s_get (by rw [hw]; exact fl_X1_18) hd (xw_at (o := 0) ho hj rfl) (xw_lt (o := 0) ho hj rfl) (show (xF1 b f s)[0]? = some (a_rf (f 0)) from rfl) (by rw [hr]; exact k)
/-- islands of 0 -/
theorem xg_X1_42 (j : Nat) (ho : xok (L.map xk) h.2.1) (hj : L[j]? = some (0, b, f, s)) (hd : decode M.1 pc = .ok (.getfield 42, 3)) (hw : M.2.1 = RX1) (k : aS l d M n0 S0 Φ (pc + 3) lv (.int (s.1 0) :: st) (xw L h) e) : aS l d M n0 S0 Φ pc lv (.ref b :: st) (xw L h) e := s_get (by rw [hw]; exact fl_X1_42) hd (xw_at (o := 0) ho hj rfl) (xw_lt (o := 0) ho hj rfl) (show (xF0 b f s)[0]? = some (.int (s.1 0)) from rfl) k
theorem xp_X1_42 (j : Nat) {v : Int32} {F : RS → Option γ} (ho : xok (L.map xk) h.2.1) (hj : L[j]? = some (0, b, f, s)) (hL : ∀ s, L.set j (0, b, f, s) = L' s) (hd : decode M.1 pc = .ok (.putfield 42, 3)) (hw : M.2.1 = RX1) (k : ∀ s, aS l d M n0 S0 Φ (pc + 3) lv st (xw (L' s) h) (F s)) : aS l d M n0 S0 Φ pc lv (.int v :: .ref b :: st) (xw L h) (thn (uI s 0 v) F) := s_put (ty := .int) (by rw [hw]; exact fw_X1_42) hd (xw_at (o := 0) ho hj rfl) (xw_lt (o := 0) ho hj rfl) (by show 0 < 16; decide) (fun _ => rfl) (fun _ => rfl) ((xw_up (o := 0) (f' := f) (s' := uI s 0 v) (x := .inr (0, (xF0 b f s).set 0 (.int v))) ho hj rfl xu0_I).trans (by rw [hL])) (k (uI s 0 v))
/-- changes of 0 -/
theorem xg_X1_84 (j : Nat) (ho : xok (L.map xk) h.2.1) (hj : L[j]? = some (0, b, f, s)) (hd : decode M.1 pc = .ok (.getfield 84, 3)) (hw : M.2.1 = RX1) (k : aS l d M n0 S0 Φ (pc + 3) lv (.int (s.1 1) :: st) (xw L h) e) : aS l d M n0 S0 Φ pc lv (.ref b :: st) (xw L h) e := s_get (by rw [hw]; exact fl_X1_84) hd (xw_at (o := 0) ho hj rfl) (xw_lt (o := 0) ho hj rfl) (show (xF0 b f s)[1]? = some (.int (s.1 1)) from rfl) k
theorem xp_X1_84 (j : Nat) {v : Int32} {F : RS → Option γ} (ho : xok (L.map xk) h.2.1) (hj : L[j]? = some (0, b, f, s)) (hL : ∀ s, L.set j (0, b, f, s) = L' s) (hd : decode M.1 pc = .ok (.putfield 84, 3)) (hw : M.2.1 = RX1) (k : ∀ s, aS l d M n0 S0 Φ (pc + 3) lv st (xw (L' s) h) (F s)) : aS l d M n0 S0 Φ pc lv (.int v :: .ref b :: st) (xw L h) (thn (uI s 1 v) F) := s_put (ty := .int) (by rw [hw]; exact fw_X1_84) hd (xw_at (o := 0) ho hj rfl) (xw_lt (o := 0) ho hj rfl) (by show 1 < 16; decide) (fun _ => rfl) (fun _ => rfl) ((xw_up (o := 0) (f' := f) (s' := uI s 1 v) (x := .inr (0, (xF0 b f s).set 1 (.int v))) ho hj rfl xu0_I).trans (by rw [hL])) (k (uI s 1 v))
/-- changeNames of 0 -/
theorem xg_X1_87 (j : Nat) (ho : xok (L.map xk) h.2.1) (hj : L[j]? = some (0, b, f, s)) (hd : decode M.1 pc = .ok (.getfield 87, 3)) (hw : M.2.1 = RX1) (k : aS l d M n0 S0 Φ (pc + 3) lv (.ref (b + 2) :: st) (xw L h) e) : aS l d M n0 S0 Φ pc lv (.ref b :: st) (xw L h) e := s_get (by rw [hw]; exact fl_X1_87) hd (xw_at (o := 0) ho hj rfl) (xw_lt (o := 0) ho hj rfl) (show (xF0 b f s)[3]? = some (.ref (b + 2)) from rfl) k
/-- kinds of 0 -/
theorem xg_X1_91 (j : Nat) (ho : xok (L.map xk) h.2.1) (hj : L[j]? = some (0, b, f, s)) (hd : decode M.1 pc = .ok (.getfield 91, 3)) (hw : M.2.1 = RX1) (k : aS l d M n0 S0 Φ (pc + 3) lv (.ref (b + 3) :: st) (xw L h) e) : aS l d M n0 S0 Φ pc lv (.ref b :: st) (xw L h) e := s_get (by rw [hw]; exact fl_X1_91) hd (xw_at (o := 0) ho hj rfl) (xw_lt (o := 0) ho hj rfl) (show (xF0 b f s)[4]? = some (.ref (b + 3)) from rfl) k
/-- numbers of 0 -/
theorem xg_X1_95 (j : Nat) (ho : xok (L.map xk) h.2.1) (hj : L[j]? = some (0, b, f, s)) (hd : decode M.1 pc = .ok (.getfield 95, 3)) (hw : M.2.1 = RX1) (k : aS l d M n0 S0 Φ (pc + 3) lv (.ref (b + 4) :: st) (xw L h) e) : aS l d M n0 S0 Φ pc lv (.ref b :: st) (xw L h) e := s_get (by rw [hw]; exact fl_X1_95) hd (xw_at (o := 0) ho hj rfl) (xw_lt (o := 0) ho hj rfl) (show (xF0 b f s)[5]? = some (.ref (b + 4)) from rfl) k
/-- puts of 2 -/
theorem xg_X2_15 (j : Nat) (ho : xok (L.map xk) h.2.1) (hj : L[j]? = some (2, b, f, s)) (hd : decode M.1 pc = .ok (.getfield 15, 3)) (hw : M.2.1 = RX2) (k : aS l d M n0 S0 Φ (pc + 3) lv (.ref (b + 1) :: st) (xw L h) e) : aS l d M n0 S0 Φ pc lv (.ref b :: st) (xw L h) e := s_get (by rw [hw]; exact fl_X2_15) hd (xw_at (o := 0) ho hj rfl) (xw_lt (o := 0) ho hj rfl) (show (xF2 b f s)[1]? = some (.ref (b + 1)) from rfl) k
/-- sayings of 2 -/
theorem xg_X2_19 (j : Nat) (ho : xok (L.map xk) h.2.1) (hj : L[j]? = some (2, b, f, s)) (hd : decode M.1 pc = .ok (.getfield 19, 3)) (hw : M.2.1 = RX2) (k : aS l d M n0 S0 Φ (pc + 3) lv (.ref (b + 2) :: st) (xw L h) e) : aS l d M n0 S0 Φ pc lv (.ref b :: st) (xw L h) e := s_get (by rw [hw]; exact fl_X2_19) hd (xw_at (o := 0) ho hj rfl) (xw_lt (o := 0) ho hj rfl) (show (xF2 b f s)[2]? = some (.ref (b + 2)) from rfl) k
/-- keys of 2 -/
theorem xg_X2_22 (j : Nat) (ho : xok (L.map xk) h.2.1) (hj : L[j]? = some (2, b, f, s)) (hd : decode M.1 pc = .ok (.getfield 22, 3)) (hw : M.2.1 = RX2) (k : aS l d M n0 S0 Φ (pc + 3) lv (.ref (b + 3) :: st) (xw L h) e) : aS l d M n0 S0 Φ pc lv (.ref b :: st) (xw L h) e := s_get (by rw [hw]; exact fl_X2_22) hd (xw_at (o := 0) ho hj rfl) (xw_lt (o := 0) ho hj rfl) (show (xF2 b f s)[3]? = some (.ref (b + 3)) from rfl) k
/-- changes of 0 -/
theorem xg_X2_31 (j : Nat) (ho : xok (L.map xk) h.2.1) (hj : L[j]? = some (0, b, f, s)) (hd : decode M.1 pc = .ok (.getfield 31, 3)) (hw : M.2.1 = RX2) (k : aS l d M n0 S0 Φ (pc + 3) lv (.int (s.1 1) :: st) (xw L h) e) : aS l d M n0 S0 Φ pc lv (.ref b :: st) (xw L h) e := s_get (by rw [hw]; exact fl_X2_31) hd (xw_at (o := 0) ho hj rfl) (xw_lt (o := 0) ho hj rfl) (show (xF0 b f s)[1]? = some (.int (s.1 1)) from rfl) k
theorem xp_X2_31 (j : Nat) {v : Int32} {F : RS → Option γ} (ho : xok (L.map xk) h.2.1) (hj : L[j]? = some (0, b, f, s)) (hL : ∀ s, L.set j (0, b, f, s) = L' s) (hd : decode M.1 pc = .ok (.putfield 31, 3)) (hw : M.2.1 = RX2) (k : ∀ s, aS l d M n0 S0 Φ (pc + 3) lv st (xw (L' s) h) (F s)) : aS l d M n0 S0 Φ pc lv (.int v :: .ref b :: st) (xw L h) (thn (uI s 1 v) F) := s_put (ty := .int) (by rw [hw]; exact fw_X2_31) hd (xw_at (o := 0) ho hj rfl) (xw_lt (o := 0) ho hj rfl) (by show 1 < 16; decide) (fun _ => rfl) (fun _ => rfl) ((xw_up (o := 0) (f' := f) (s' := uI s 1 v) (x := .inr (0, (xF0 b f s).set 1 (.int v))) ho hj rfl xu0_I).trans (by rw [hL])) (k (uI s 1 v))
/-- count of 2 -/
theorem xg_X2_9 (j : Nat) (ho : xok (L.map xk) h.2.1) (hj : L[j]? = some (2, b, f, s)) (hd : decode M.1 pc = .ok (.getfield 9, 3)) (hw : M.2.1 = RX2) (k : aS l d M n0 S0 Φ (pc + 3) lv (.int (s.1 0) :: st) (xw L h) e) : aS l d M n0 S0 Φ pc lv (.ref b :: st) (xw L h) e := s_get (by rw [hw]; exact fl_X2_9) hd (xw_at (o := 0) ho hj rfl) (xw_lt (o := 0) ho hj rfl) (show (xF2 b f s)[0]? = some (.int (s.1 0)) from rfl) k
theorem xp_X2_9 (j : Nat) {v : Int32} {F : RS → Option γ} (ho : xok (L.map xk) h.2.1) (hj : L[j]? = some (2, b, f, s)) (hL : ∀ s, L.set j (2, b, f, s) = L' s) (hd : decode M.1 pc = .ok (.putfield 9, 3)) (hw : M.2.1 = RX2) (k : ∀ s, aS l d M n0 S0 Φ (pc + 3) lv st (xw (L' s) h) (F s)) : aS l d M n0 S0 Φ pc lv (.int v :: .ref b :: st) (xw L h) (thn (uI s 0 v) F) := s_put (ty := .int) (by rw [hw]; exact fw_X2_9) hd (xw_at (o := 0) ho hj rfl) (xw_lt (o := 0) ho hj rfl) (by show 0 < 4; decide) (fun _ => rfl) (fun _ => rfl) ((xw_up (o := 0) (f' := f) (s' := uI s 0 v) (x := .inr (2, (xF2 b f s).set 0 (.int v))) ho hj rfl xu2_I).trans (by rw [hL])) (k (uI s 0 v))
/-- rows of 3 -/
theorem xg_X3_13 (j : Nat) (ho : xok (L.map xk) h.2.1) (hj : L[j]? = some (3, b, f, s)) (hd : decode M.1 pc = .ok (.getfield 13, 3)) (hw : M.2.1 = RX3) (k : aS l d M n0 S0 Φ (pc + 3) lv (.int (s.1 1) :: st) (xw L h) e) : aS l d M n0 S0 Φ pc lv (.ref b :: st) (xw L h) e := s_get (by rw [hw]; exact fl_X3_13) hd (xw_at (o := 0) ho hj rfl) (xw_lt (o := 0) ho hj rfl) (show (xF3 b f s)[1]? = some (.int (s.1 1)) from rfl) k
theorem xp_X3_13 (j : Nat) {v : Int32} {F : RS → Option γ} (ho : xok (L.map xk) h.2.1) (hj : L[j]? = some (3, b, f, s)) (hL : ∀ s, L.set j (3, b, f, s) = L' s) (hd : decode M.1 pc = .ok (.putfield 13, 3)) (hw : M.2.1 = RX3) (k : ∀ s, aS l d M n0 S0 Φ (pc + 3) lv st (xw (L' s) h) (F s)) : aS l d M n0 S0 Φ pc lv (.int v :: .ref b :: st) (xw L h) (thn (uI s 1 v) F) := s_put (ty := .int) (by rw [hw]; exact fw_X3_13) hd (xw_at (o := 0) ho hj rfl) (xw_lt (o := 0) ho hj rfl) (by show 1 < 8; decide) (fun _ => rfl) (fun _ => rfl) ((xw_up (o := 0) (f' := f) (s' := uI s 1 v) (x := .inr (3, (xF3 b f s).set 1 (.int v))) ho hj rfl xu3_I).trans (by rw [hL])) (k (uI s 1 v))
/-- words of 3 -/
theorem xg_X3_16 (j : Nat) (ho : xok (L.map xk) h.2.1) (hj : L[j]? = some (3, b, f, s)) (hd : decode M.1 pc = .ok (.getfield 16, 3)) (hw : M.2.1 = RX3) (k : aS l d M n0 S0 Φ (pc + 3) lv (.ref (b + 1) :: st) (xw L h) e) : aS l d M n0 S0 Φ pc lv (.ref b :: st) (xw L h) e := s_get (by rw [hw]; exact fl_X3_16) hd (xw_at (o := 0) ho hj rfl) (xw_lt (o := 0) ho hj rfl) (show (xF3 b f s)[2]? = some (.ref (b + 1)) from rfl) k
/-- islands of 3 -/
theorem xg_X3_20 (j : Nat) (ho : xok (L.map xk) h.2.1) (hj : L[j]? = some (3, b, f, s)) (hd : decode M.1 pc = .ok (.getfield 20, 3)) (hw : M.2.1 = RX3) (k : aS l d M n0 S0 Φ (pc + 3) lv (.ref (b + 2) :: st) (xw L h) e) : aS l d M n0 S0 Φ pc lv (.ref b :: st) (xw L h) e := s_get (by rw [hw]; exact fl_X3_20) hd (xw_at (o := 0) ho hj rfl) (xw_lt (o := 0) ho hj rfl) (show (xF3 b f s)[3]? = some (.ref (b + 2)) from rfl) k
/-- others of 3 -/
theorem xg_X3_23 (j : Nat) (ho : xok (L.map xk) h.2.1) (hj : L[j]? = some (3, b, f, s)) (hd : decode M.1 pc = .ok (.getfield 23, 3)) (hw : M.2.1 = RX3) (k : aS l d M n0 S0 Φ (pc + 3) lv (.ref (b + 3) :: st) (xw L h) e) : aS l d M n0 S0 Φ pc lv (.ref b :: st) (xw L h) e := s_get (by rw [hw]; exact fl_X3_23) hd (xw_at (o := 0) ho hj rfl) (xw_lt (o := 0) ho hj rfl) (show (xF3 b f s)[4]? = some (.ref (b + 3)) from rfl) k
/-- numbers of 3 -/
theorem xg_X3_26 (j : Nat) (ho : xok (L.map xk) h.2.1) (hj : L[j]? = some (3, b, f, s)) (hd : decode M.1 pc = .ok (.getfield 26, 3)) (hw : M.2.1 = RX3) (k : aS l d M n0 S0 Φ (pc + 3) lv (.ref (b + 4) :: st) (xw L h) e) : aS l d M n0 S0 Φ pc lv (.ref b :: st) (xw L h) e := s_get (by rw [hw]; exact fl_X3_26) hd (xw_at (o := 0) ho hj rfl) (xw_lt (o := 0) ho hj rfl) (show (xF3 b f s)[5]? = some (.ref (b + 4)) from rfl) k
/-- twice of 3 -/
theorem xg_X3_29 (j : Nat) (ho : xok (L.map xk) h.2.1) (hj : L[j]? = some (3, b, f, s)) (hd : decode M.1 pc = .ok (.getfield 29, 3)) (hw : M.2.1 = RX3) (k : aS l d M n0 S0 Φ (pc + 3) lv (.ref (b + 5) :: st) (xw L h) e) : aS l d M n0 S0 Φ pc lv (.ref b :: st) (xw L h) e := s_get (by rw [hw]; exact fl_X3_29) hd (xw_at (o := 0) ho hj rfl) (xw_lt (o := 0) ho hj rfl) (show (xF3 b f s)[6]? = some (.ref (b + 5)) from rfl) k
/-- partners of 3 -/
theorem xg_X3_33 (j : Nat) (ho : xok (L.map xk) h.2.1) (hj : L[j]? = some (3, b, f, s)) (hd : decode M.1 pc = .ok (.getfield 33, 3)) (hw : M.2.1 = RX3) (k : aS l d M n0 S0 Φ (pc + 3) lv (.ref (b + 6) :: st) (xw L h) e) : aS l d M n0 S0 Φ pc lv (.ref b :: st) (xw L h) e := s_get (by rw [hw]; exact fl_X3_33) hd (xw_at (o := 0) ho hj rfl) (xw_lt (o := 0) ho hj rfl) (show (xF3 b f s)[7]? = some (.ref (b + 6)) from rfl) k
/-- steps of 3 -/
theorem xg_X3_7 (j : Nat) (ho : xok (L.map xk) h.2.1) (hj : L[j]? = some (3, b, f, s)) (hd : decode M.1 pc = .ok (.getfield 7, 3)) (hw : M.2.1 = RX3) (k : aS l d M n0 S0 Φ (pc + 3) lv (.int (s.1 0) :: st) (xw L h) e) : aS l d M n0 S0 Φ pc lv (.ref b :: st) (xw L h) e := s_get (by rw [hw]; exact fl_X3_7) hd (xw_at (o := 0) ho hj rfl) (xw_lt (o := 0) ho hj rfl) (show (xF3 b f s)[0]? = some (.int (s.1 0)) from rfl) k
theorem xp_X3_7 (j : Nat) {v : Int32} {F : RS → Option γ} (ho : xok (L.map xk) h.2.1) (hj : L[j]? = some (3, b, f, s)) (hL : ∀ s, L.set j (3, b, f, s) = L' s) (hd : decode M.1 pc = .ok (.putfield 7, 3)) (hw : M.2.1 = RX3) (k : ∀ s, aS l d M n0 S0 Φ (pc + 3) lv st (xw (L' s) h) (F s)) : aS l d M n0 S0 Φ pc lv (.int v :: .ref b :: st) (xw L h) (thn (uI s 0 v) F) := s_put (ty := .int) (by rw [hw]; exact fw_X3_7) hd (xw_at (o := 0) ho hj rfl) (xw_lt (o := 0) ho hj rfl) (by show 0 < 8; decide) (fun _ => rfl) (fun _ => rfl) ((xw_up (o := 0) (f' := f) (s' := uI s 0 v) (x := .inr (3, (xF3 b f s).set 0 (.int v))) ho hj rfl xu3_I).trans (by rw [hL])) (k (uI s 0 v))
/-- twice of 3 -/
theorem xg_X4_105 (j : Nat) (ho : xok (L.map xk) h.2.1) (hj : L[j]? = some (3, b, f, s)) (hd : decode M.1 pc = .ok (.getfield 105, 3)) (hw : M.2.1 = RX4) (k : aS l d M n0 S0 Φ (pc + 3) lv (.ref (b + 5) :: st) (xw L h) e) : aS l d M n0 S0 Φ pc lv (.ref b :: st) (xw L h) e := s_get (by rw [hw]; exact fl_X4_105) hd (xw_at (o := 0) ho hj rfl) (xw_lt (o := 0) ho hj rfl) (show (xF3 b f s)[6]? = some (.ref (b + 5)) from rfl) k
/-- others of 3 -/
theorem xg_X4_109 (j : Nat) (ho : xok (L.map xk) h.2.1) (hj : L[j]? = some (3, b, f, s)) (hd : decode M.1 pc = .ok (.getfield 109, 3)) (hw : M.2.1 = RX4) (k : aS l d M n0 S0 Φ (pc + 3) lv (.ref (b + 3) :: st) (xw L h) e) : aS l d M n0 S0 Φ pc lv (.ref b :: st) (xw L h) e := s_get (by rw [hw]; exact fl_X4_109) hd (xw_at (o := 0) ho hj rfl) (xw_lt (o := 0) ho hj rfl) (show (xF3 b f s)[4]? = some (.ref (b + 3)) from rfl) k
/-- log of 4 -/
theorem xg_X4_12 (j : Nat) {a : Nat} (ho : xok (L.map xk) h.2.1) (hj : L[j]? = some (4, b, f, s)) (hd : decode M.1 pc = .ok (.getfield 12, 3)) (hw : M.2.1 = RX4) (hr : f 2 = some a) (k : aS l d M n0 S0 Φ (pc + 3) lv (.ref a :: st) (xw L h) e) : aS l d M n0 S0 Φ pc lv (.ref b :: st) (xw L h) e := s_get (by rw [hw]; exact fl_X4_12) hd (xw_at (o := 0) ho hj rfl) (xw_lt (o := 0) ho hj rfl) (show (xF4 b f s)[2]? = some (a_rf (f 2)) from rfl) (by rw [hr]; exact k)
theorem xgN_X4_12 (j : Nat) (ho : xok (L.map xk) h.2.1) (hj : L[j]? = some (4, b, f, s)) (hd : decode M.1 pc = .ok (.getfield 12, 3)) (hw : M.2.1 = RX4) (hr : f 2 = none) (k : aS l d M n0 S0 Φ (pc + 3) lv (.null :: st) (xw L h) e) : aS l d M n0 S0 Φ pc lv (.ref b :: st) (xw L h) e := s_get (by rw [hw]; exact fl_X4_12) hd (xw_at (o := 0) ho hj rfl) (xw_lt (o := 0) ho hj rfl) (show (xF4 b f s)[2]? = some (a_rf (f 2)) from rfl) (by rw [hr]; exact k)
/-- islands of 3 -/
theorem xg_X4_122 (j : Nat) (ho : xok (L.map xk) h.2.1) (hj : L[j]? = some (3, b, f, s)) (hd : decode M.1 pc = .ok (.getfield 122, 3)) (hw : M.2.1 = RX4) (k : aS l d M n0 S0 Φ (pc + 3) lv (.ref (b + 2) :: st) (xw L h) e) : aS l d M n0 S0 Φ pc lv (.ref b :: st) (xw L h) e := s_get (by rw [hw]; exact fl_X4_122) hd (xw_at (o := 0) ho hj rfl) (xw_lt (o := 0) ho hj rfl) (show (xF3 b f s)[3]? = some (.ref (b + 2)) from rfl) k
/-- numbers of 3 -/
theorem xg_X4_125 (j : Nat) (ho : xok (L.map xk) h.2.1) (hj : L[j]? = some (3, b, f, s)) (hd : decode M.1 pc = .ok (.getfield 125, 3)) (hw : M.2.1 = RX4) (k : aS l d M n0 S0 Φ (pc + 3) lv (.ref (b + 4) :: st) (xw L h) e) : aS l d M n0 S0 Φ pc lv (.ref b :: st) (xw L h) e := s_get (by rw [hw]; exact fl_X4_125) hd (xw_at (o := 0) ho hj rfl) (xw_lt (o := 0) ho hj rfl) (show (xF3 b f s)[5]? = some (.ref (b + 4)) from rfl) k
/-- opened of 4 -/
theorem xg_X4_18 (j : Nat) (ho : xok (L.map xk) h.2.1) (hj : L[j]? = some (4, b, f, s)) (hd : decode M.1 pc = .ok (.getfield 18, 3)) (hw : M.2.1 = RX4) (k : aS l d M n0 S0 Φ (pc + 3) lv (.ref (b + 8) :: st) (xw L h) e) : aS l d M n0 S0 Φ pc lv (.ref b :: st) (xw L h) e := s_get (by rw [hw]; exact fl_X4_18) hd (xw_at (o := 0) ho hj rfl) (xw_lt (o := 0) ho hj rfl) (show (xF4 b f s)[3]? = some (.ref (b + 8)) from rfl) k
/-- depth of 4 -/
theorem xg_X4_22 (j : Nat) (ho : xok (L.map xk) h.2.1) (hj : L[j]? = some (4, b, f, s)) (hd : decode M.1 pc = .ok (.getfield 22, 3)) (hw : M.2.1 = RX4) (k : aS l d M n0 S0 Φ (pc + 3) lv (.int (s.1 4) :: st) (xw L h) e) : aS l d M n0 S0 Φ pc lv (.ref b :: st) (xw L h) e := s_get (by rw [hw]; exact fl_X4_22) hd (xw_at (o := 0) ho hj rfl) (xw_lt (o := 0) ho hj rfl) (show (xF4 b f s)[4]? = some (.int (s.1 4)) from rfl) k
theorem xp_X4_22 (j : Nat) {v : Int32} {F : RS → Option γ} (ho : xok (L.map xk) h.2.1) (hj : L[j]? = some (4, b, f, s)) (hL : ∀ s, L.set j (4, b, f, s) = L' s) (hd : decode M.1 pc = .ok (.putfield 22, 3)) (hw : M.2.1 = RX4) (k : ∀ s, aS l d M n0 S0 Φ (pc + 3) lv st (xw (L' s) h) (F s)) : aS l d M n0 S0 Φ pc lv (.int v :: .ref b :: st) (xw L h) (thn (uI s 4 v) F) := s_put (ty := .int) (by rw [hw]; exact fw_X4_22) hd (xw_at (o := 0) ho hj rfl) (xw_lt (o := 0) ho hj rfl) (by show 4 < 5; decide) (fun _ => rfl) (fun _ => rfl) ((xw_up (o := 0) (f' := f) (s' := uI s 4 v) (x := .inr (4, (xF4 b f s).set 4 (.int v))) ho hj rfl xu4_I).trans (by rw [hL])) (k (uI s 4 v))
/-- tokens of 4 -/
theorem xg_X4_26 (j : Nat) {a : Nat} (ho : xok (L.map xk) h.2.1) (hj : L[j]? = some (4, b, f, s)) (hd : decode M.1 pc = .ok (.getfield 26, 3)) (hw : M.2.1 = RX4) (hr : f 0 = some a) (k : aS l d M n0 S0 Φ (pc + 3) lv (.ref a :: st) (xw L h) e) : aS l d M n0 S0 Φ pc lv (.ref b :: st) (xw L h) e := s_get (by rw [hw]; exact fl_X4_26) hd (xw_at (o := 0) ho hj rfl) (xw_lt (o := 0) ho hj rfl) (show (xF4 b f s)[0]? = some (a_rf (f 0)) from rfl) (by rw [hr]; exact k)
theorem xgN_X4_26 (j : Nat) (ho : xok (L.map xk) h.2.1) (hj : L[j]? = some (4, b, f, s)) (hd : decode M.1 pc = .ok (.getfield 26, 3)) (hw : M.2.1 = RX4) (hr : f 0 = none) (k : aS l d M n0 S0 Φ (pc + 3) lv (.null :: st) (xw L h) e) : aS l d M n0 S0 Φ pc lv (.ref b :: st) (xw L h) e := s_get (by rw [hw]; exact fl_X4_26) hd (xw_at (o := 0) ho hj rfl) (xw_lt (o := 0) ho hj rfl) (show (xF4 b f s)[0]? = some (a_rf (f 0)) from rfl) (by rw [hr]; exact k)
/-- book of 4 -/
theorem xg_X4_30 (j : Nat) {a : Nat} (ho : xok (L.map xk) h.2.1) (hj : L[j]? = some (4, b, f, s)) (hd : decode M.1 pc = .ok (.getfield 30, 3)) (hw : M.2.1 = RX4) (hr : f 1 = some a) (k : aS l d M n0 S0 Φ (pc + 3) lv (.ref a :: st) (xw L h) e) : aS l d M n0 S0 Φ pc lv (.ref b :: st) (xw L h) e := s_get (by rw [hw]; exact fl_X4_30) hd (xw_at (o := 0) ho hj rfl) (xw_lt (o := 0) ho hj rfl) (show (xF4 b f s)[1]? = some (a_rf (f 1)) from rfl) (by rw [hr]; exact k)
theorem xgN_X4_30 (j : Nat) (ho : xok (L.map xk) h.2.1) (hj : L[j]? = some (4, b, f, s)) (hd : decode M.1 pc = .ok (.getfield 30, 3)) (hw : M.2.1 = RX4) (hr : f 1 = none) (k : aS l d M n0 S0 Φ (pc + 3) lv (.null :: st) (xw L h) e) : aS l d M n0 S0 Φ pc lv (.ref b :: st) (xw L h) e := s_get (by rw [hw]; exact fl_X4_30) hd (xw_at (o := 0) ho hj rfl) (xw_lt (o := 0) ho hj rfl) (show (xF4 b f s)[1]? = some (a_rf (f 1)) from rfl) (by rw [hr]; exact k)
/-- rows of 3 -/
theorem xg_X4_44 (j : Nat) (ho : xok (L.map xk) h.2.1) (hj : L[j]? = some (3, b, f, s)) (hd : decode M.1 pc = .ok (.getfield 44, 3)) (hw : M.2.1 = RX4) (k : aS l d M n0 S0 Φ (pc + 3) lv (.int (s.1 1) :: st) (xw L h) e) : aS l d M n0 S0 Φ pc lv (.ref b :: st) (xw L h) e := s_get (by rw [hw]; exact fl_X4_44) hd (xw_at (o := 0) ho hj rfl) (xw_lt (o := 0) ho hj rfl) (show (xF3 b f s)[1]? = some (.int (s.1 1)) from rfl) k
theorem xp_X4_44 (j : Nat) {v : Int32} {F : RS → Option γ} (ho : xok (L.map xk) h.2.1) (hj : L[j]? = some (3, b, f, s)) (hL : ∀ s, L.set j (3, b, f, s) = L' s) (hd : decode M.1 pc = .ok (.putfield 44, 3)) (hw : M.2.1 = RX4) (k : ∀ s, aS l d M n0 S0 Φ (pc + 3) lv st (xw (L' s) h) (F s)) : aS l d M n0 S0 Φ pc lv (.int v :: .ref b :: st) (xw L h) (thn (uI s 1 v) F) := s_put (ty := .int) (by rw [hw]; exact fw_X4_44) hd (xw_at (o := 0) ho hj rfl) (xw_lt (o := 0) ho hj rfl) (by show 1 < 8; decide) (fun _ => rfl) (fun _ => rfl) ((xw_up (o := 0) (f' := f) (s' := uI s 1 v) (x := .inr (3, (xF3 b f s).set 1 (.int v))) ho hj rfl xu3_I).trans (by rw [hL])) (k (uI s 1 v))
/-- words of 3 -/
theorem xg_X4_68 (j : Nat) (ho : xok (L.map xk) h.2.1) (hj : L[j]? = some (3, b, f, s)) (hd : decode M.1 pc = .ok (.getfield 68, 3)) (hw : M.2.1 = RX4) (k : aS l d M n0 S0 Φ (pc + 3) lv (.ref (b + 1) :: st) (xw L h) e) : aS l d M n0 S0 Φ pc lv (.ref b :: st) (xw L h) e := s_get (by rw [hw]; exact fl_X4_68) hd (xw_at (o := 0) ho hj rfl) (xw_lt (o := 0) ho hj rfl) (show (xF3 b f s)[2]? = some (.ref (b + 1)) from rfl) k
/-- partners of 3 -/
theorem xg_X4_71 (j : Nat) (ho : xok (L.map xk) h.2.1) (hj : L[j]? = some (3, b, f, s)) (hd : decode M.1 pc = .ok (.getfield 71, 3)) (hw : M.2.1 = RX4) (k : aS l d M n0 S0 Φ (pc + 3) lv (.ref (b + 6) :: st) (xw L h) e) : aS l d M n0 S0 Φ pc lv (.ref b :: st) (xw L h) e := s_get (by rw [hw]; exact fl_X4_71) hd (xw_at (o := 0) ho hj rfl) (xw_lt (o := 0) ho hj rfl) (show (xF3 b f s)[7]? = some (.ref (b + 6)) from rfl) k
/-- steps of 3 -/
theorem xg_X4_80 (j : Nat) (ho : xok (L.map xk) h.2.1) (hj : L[j]? = some (3, b, f, s)) (hd : decode M.1 pc = .ok (.getfield 80, 3)) (hw : M.2.1 = RX4) (k : aS l d M n0 S0 Φ (pc + 3) lv (.int (s.1 0) :: st) (xw L h) e) : aS l d M n0 S0 Φ pc lv (.ref b :: st) (xw L h) e := s_get (by rw [hw]; exact fl_X4_80) hd (xw_at (o := 0) ho hj rfl) (xw_lt (o := 0) ho hj rfl) (show (xF3 b f s)[0]? = some (.int (s.1 0)) from rfl) k
theorem xp_X4_80 (j : Nat) {v : Int32} {F : RS → Option γ} (ho : xok (L.map xk) h.2.1) (hj : L[j]? = some (3, b, f, s)) (hL : ∀ s, L.set j (3, b, f, s) = L' s) (hd : decode M.1 pc = .ok (.putfield 80, 3)) (hw : M.2.1 = RX4) (k : ∀ s, aS l d M n0 S0 Φ (pc + 3) lv st (xw (L' s) h) (F s)) : aS l d M n0 S0 Φ pc lv (.int v :: .ref b :: st) (xw L h) (thn (uI s 0 v) F) := s_put (ty := .int) (by rw [hw]; exact fw_X4_80) hd (xw_at (o := 0) ho hj rfl) (xw_lt (o := 0) ho hj rfl) (by show 0 < 8; decide) (fun _ => rfl) (fun _ => rfl) ((xw_up (o := 0) (f' := f) (s' := uI s 0 v) (x := .inr (3, (xF3 b f s).set 0 (.int v))) ho hj rfl xu3_I).trans (by rw [hL])) (k (uI s 0 v))
/-- book of 5 -/
theorem xg_X5_14 (j : Nat) {a : Nat} (ho : xok (L.map xk) h.2.1) (hj : L[j]? = some (5, b, f, s)) (hd : decode M.1 pc = .ok (.getfield 14, 3)) (hw : M.2.1 = RX5) (hr : f 0 = some a) (k : aS l d M n0 S0 Φ (pc + 3) lv (.ref a :: st) (xw L h) e) : aS l d M n0 S0 Φ pc lv (.ref b :: st) (xw L h) e := s_get (by rw [hw]; exact fl_X5_14) hd (xw_at (o := 0) ho hj rfl) (xw_lt (o := 0) ho hj rfl) (show (xF5 b f s)[0]? = some (a_rf (f 0)) from rfl) (by rw [hr]; exact k)
theorem xgN_X5_14 (j : Nat) (ho : xok (L.map xk) h.2.1) (hj : L[j]? = some (5, b, f, s)) (hd : decode M.1 pc = .ok (.getfield 14, 3)) (hw : M.2.1 = RX5) (hr : f 0 = none) (k : aS l d M n0 S0 Φ (pc + 3) lv (.null :: st) (xw L h) e) : aS l d M n0 S0 Φ pc lv (.ref b :: st) (xw L h) e := s_get (by rw [hw]; exact fl_X5_14) hd (xw_at (o := 0) ho hj rfl) (xw_lt (o := 0) ho hj rfl) (show (xF5 b f s)[0]? = some (a_rf (f 0)) from rfl) (by rw [hr]; exact k)
theorem xp_X5_14 (j : Nat) {a : Nat} {L2 : List XR} (ho : xok (L.map xk) h.2.1) (hj : L[j]? = some (5, b, f, s)) (hL : L.set j (5, b, va_up f 0 (some a), s) = L2) (hd : decode M.1 pc = .ok (.putfield 14, 3)) (hw : M.2.1 = RX5) (k : aS l d M n0 S0 Φ (pc + 3) lv st (xw L2 h) e) : aS l d M n0 S0 Φ pc lv (.ref a :: .ref b :: st) (xw L h) e := s_put (ty := (.object "SwapBook$Book")) (by rw [hw]; exact fw_X5_14) hd (xw_at (o := 0) ho hj rfl) (xw_lt (o := 0) ho hj rfl) (by show 0 < 6; decide) (fun _ => rfl) (fun _ => rfl) ((xw_up (o := 0) (f' := va_up f 0 (some a)) (s' := s) (x := .inr (5, (xF5 b f s).set 0 (.ref a))) ho hj rfl xu5_R).trans (by rw [hL])) k
theorem xpN_X5_14 (j : Nat) {L2 : List XR} (ho : xok (L.map xk) h.2.1) (hj : L[j]? = some (5, b, f, s)) (hL : L.set j (5, b, va_up f 0 none, s) = L2) (hd : decode M.1 pc = .ok (.putfield 14, 3)) (hw : M.2.1 = RX5) (k : aS l d M n0 S0 Φ (pc + 3) lv st (xw L2 h) e) : aS l d M n0 S0 Φ pc lv (.null :: .ref b :: st) (xw L h) e := s_put (ty := (.object "SwapBook$Book")) (by rw [hw]; exact fw_X5_14) hd (xw_at (o := 0) ho hj rfl) (xw_lt (o := 0) ho hj rfl) (by show 0 < 6; decide) (fun _ => rfl) (fun _ => rfl) ((xw_up (o := 0) (f' := va_up f 0 none) (s' := s) (x := .inr (5, (xF5 b f s).set 0 .null)) ho hj rfl xu5_R).trans (by rw [hL])) k
/-- set of 5 -/
theorem xg_X5_18 (j : Nat) (ho : xok (L.map xk) h.2.1) (hj : L[j]? = some (5, b, f, s)) (hd : decode M.1 pc = .ok (.getfield 18, 3)) (hw : M.2.1 = RX5) (k : aS l d M n0 S0 Φ (pc + 3) lv (.int (s.1 1) :: st) (xw L h) e) : aS l d M n0 S0 Φ pc lv (.ref b :: st) (xw L h) e := s_get (by rw [hw]; exact fl_X5_18) hd (xw_at (o := 0) ho hj rfl) (xw_lt (o := 0) ho hj rfl) (show (xF5 b f s)[1]? = some (.int (s.1 1)) from rfl) k
theorem xp_X5_18 (j : Nat) {v : Int32} {F : RS → Option γ} (ho : xok (L.map xk) h.2.1) (hj : L[j]? = some (5, b, f, s)) (hL : ∀ s, L.set j (5, b, f, s) = L' s) (hd : decode M.1 pc = .ok (.putfield 18, 3)) (hw : M.2.1 = RX5) (k : ∀ s, aS l d M n0 S0 Φ (pc + 3) lv st (xw (L' s) h) (F s)) : aS l d M n0 S0 Φ pc lv (.int v :: .ref b :: st) (xw L h) (thn (uI s 1 v) F) := s_put (ty := .int) (by rw [hw]; exact fw_X5_18) hd (xw_at (o := 0) ho hj rfl) (xw_lt (o := 0) ho hj rfl) (by show 1 < 6; decide) (fun _ => rfl) (fun _ => rfl) ((xw_up (o := 0) (f' := f) (s' := uI s 1 v) (x := .inr (5, (xF5 b f s).set 1 (.int v))) ho hj rfl xu5_I).trans (by rw [hL])) (k (uI s 1 v))
/-- early of 5 -/
theorem xg_X5_22 (j : Nat) (ho : xok (L.map xk) h.2.1) (hj : L[j]? = some (5, b, f, s)) (hd : decode M.1 pc = .ok (.getfield 22, 3)) (hw : M.2.1 = RX5) (k : aS l d M n0 S0 Φ (pc + 3) lv (.int (s.1 2) :: st) (xw L h) e) : aS l d M n0 S0 Φ pc lv (.ref b :: st) (xw L h) e := s_get (by rw [hw]; exact fl_X5_22) hd (xw_at (o := 0) ho hj rfl) (xw_lt (o := 0) ho hj rfl) (show (xF5 b f s)[2]? = some (.int (s.1 2)) from rfl) k
theorem xp_X5_22 (j : Nat) {v : Int32} {F : RS → Option γ} (ho : xok (L.map xk) h.2.1) (hj : L[j]? = some (5, b, f, s)) (hL : ∀ s, L.set j (5, b, f, s) = L' s) (hd : decode M.1 pc = .ok (.putfield 22, 3)) (hw : M.2.1 = RX5) (k : ∀ s, aS l d M n0 S0 Φ (pc + 3) lv st (xw (L' s) h) (F s)) : aS l d M n0 S0 Φ pc lv (.int v :: .ref b :: st) (xw L h) (thn (uI s 2 v) F) := s_put (ty := .int) (by rw [hw]; exact fw_X5_22) hd (xw_at (o := 0) ho hj rfl) (xw_lt (o := 0) ho hj rfl) (by show 2 < 6; decide) (fun _ => rfl) (fun _ => rfl) ((xw_up (o := 0) (f' := f) (s' := uI s 2 v) (x := .inr (5, (xF5 b f s).set 2 (.int v))) ho hj rfl xu5_I).trans (by rw [hL])) (k (uI s 2 v))
/-- late of 5 -/
theorem xg_X5_25 (j : Nat) (ho : xok (L.map xk) h.2.1) (hj : L[j]? = some (5, b, f, s)) (hd : decode M.1 pc = .ok (.getfield 25, 3)) (hw : M.2.1 = RX5) (k : aS l d M n0 S0 Φ (pc + 3) lv (.int (s.1 3) :: st) (xw L h) e) : aS l d M n0 S0 Φ pc lv (.ref b :: st) (xw L h) e := s_get (by rw [hw]; exact fl_X5_25) hd (xw_at (o := 0) ho hj rfl) (xw_lt (o := 0) ho hj rfl) (show (xF5 b f s)[3]? = some (.int (s.1 3)) from rfl) k
theorem xp_X5_25 (j : Nat) {v : Int32} {F : RS → Option γ} (ho : xok (L.map xk) h.2.1) (hj : L[j]? = some (5, b, f, s)) (hL : ∀ s, L.set j (5, b, f, s) = L' s) (hd : decode M.1 pc = .ok (.putfield 25, 3)) (hw : M.2.1 = RX5) (k : ∀ s, aS l d M n0 S0 Φ (pc + 3) lv st (xw (L' s) h) (F s)) : aS l d M n0 S0 Φ pc lv (.int v :: .ref b :: st) (xw L h) (thn (uI s 3 v) F) := s_put (ty := .int) (by rw [hw]; exact fw_X5_25) hd (xw_at (o := 0) ho hj rfl) (xw_lt (o := 0) ho hj rfl) (by show 3 < 6; decide) (fun _ => rfl) (fun _ => rfl) ((xw_up (o := 0) (f' := f) (s' := uI s 3 v) (x := .inr (5, (xF5 b f s).set 3 (.int v))) ho hj rfl xu5_I).trans (by rw [hL])) (k (uI s 3 v))
/-- stamp of 5 -/
theorem xg_X5_28 (j : Nat) (ho : xok (L.map xk) h.2.1) (hj : L[j]? = some (5, b, f, s)) (hd : decode M.1 pc = .ok (.getfield 28, 3)) (hw : M.2.1 = RX5) (k : aS l d M n0 S0 Φ (pc + 3) lv (.int (s.1 4) :: st) (xw L h) e) : aS l d M n0 S0 Φ pc lv (.ref b :: st) (xw L h) e := s_get (by rw [hw]; exact fl_X5_28) hd (xw_at (o := 0) ho hj rfl) (xw_lt (o := 0) ho hj rfl) (show (xF5 b f s)[4]? = some (.int (s.1 4)) from rfl) k
theorem xp_X5_28 (j : Nat) {v : Int32} {F : RS → Option γ} (ho : xok (L.map xk) h.2.1) (hj : L[j]? = some (5, b, f, s)) (hL : ∀ s, L.set j (5, b, f, s) = L' s) (hd : decode M.1 pc = .ok (.putfield 28, 3)) (hw : M.2.1 = RX5) (k : ∀ s, aS l d M n0 S0 Φ (pc + 3) lv st (xw (L' s) h) (F s)) : aS l d M n0 S0 Φ pc lv (.int v :: .ref b :: st) (xw L h) (thn (uI s 4 v) F) := s_put (ty := .int) (by rw [hw]; exact fw_X5_28) hd (xw_at (o := 0) ho hj rfl) (xw_lt (o := 0) ho hj rfl) (by show 4 < 6; decide) (fun _ => rfl) (fun _ => rfl) ((xw_up (o := 0) (f' := f) (s' := uI s 4 v) (x := .inr (5, (xF5 b f s).set 4 (.int v))) ho hj rfl xu5_I).trans (by rw [hL])) (k (uI s 4 v))
/-- ways of 5 -/
theorem xg_X5_31 (j : Nat) {a : Nat} (ho : xok (L.map xk) h.2.1) (hj : L[j]? = some (5, b, f, s)) (hd : decode M.1 pc = .ok (.getfield 31, 3)) (hw : M.2.1 = RX5) (hr : f 5 = some a) (k : aS l d M n0 S0 Φ (pc + 3) lv (.ref a :: st) (xw L h) e) : aS l d M n0 S0 Φ pc lv (.ref b :: st) (xw L h) e := s_get (by rw [hw]; exact fl_X5_31) hd (xw_at (o := 0) ho hj rfl) (xw_lt (o := 0) ho hj rfl) (show (xF5 b f s)[5]? = some (a_rf (f 5)) from rfl) (by rw [hr]; exact k)
theorem xgN_X5_31 (j : Nat) (ho : xok (L.map xk) h.2.1) (hj : L[j]? = some (5, b, f, s)) (hd : decode M.1 pc = .ok (.getfield 31, 3)) (hw : M.2.1 = RX5) (hr : f 5 = none) (k : aS l d M n0 S0 Φ (pc + 3) lv (.null :: st) (xw L h) e) : aS l d M n0 S0 Φ pc lv (.ref b :: st) (xw L h) e := s_get (by rw [hw]; exact fl_X5_31) hd (xw_at (o := 0) ho hj rfl) (xw_lt (o := 0) ho hj rfl) (show (xF5 b f s)[5]? = some (a_rf (f 5)) from rfl) (by rw [hr]; exact k)
theorem xp_X5_31 (j : Nat) {a : Nat} {L2 : List XR} (ho : xok (L.map xk) h.2.1) (hj : L[j]? = some (5, b, f, s)) (hL : L.set j (5, b, va_up f 5 (some a), s) = L2) (hd : decode M.1 pc = .ok (.putfield 31, 3)) (hw : M.2.1 = RX5) (k : aS l d M n0 S0 Φ (pc + 3) lv st (xw L2 h) e) : aS l d M n0 S0 Φ pc lv (.ref a :: .ref b :: st) (xw L h) e := s_put (ty := (.array .long)) (by rw [hw]; exact fw_X5_31) hd (xw_at (o := 0) ho hj rfl) (xw_lt (o := 0) ho hj rfl) (by show 5 < 6; decide) (fun _ => rfl) (fun _ => rfl) ((xw_up (o := 0) (f' := va_up f 5 (some a)) (s' := s) (x := .inr (5, (xF5 b f s).set 5 (.ref a))) ho hj rfl xu5_R).trans (by rw [hL])) k
theorem xpN_X5_31 (j : Nat) {L2 : List XR} (ho : xok (L.map xk) h.2.1) (hj : L[j]? = some (5, b, f, s)) (hL : L.set j (5, b, va_up f 5 none, s) = L2) (hd : decode M.1 pc = .ok (.putfield 31, 3)) (hw : M.2.1 = RX5) (k : aS l d M n0 S0 Φ (pc + 3) lv st (xw L2 h) e) : aS l d M n0 S0 Φ pc lv (.null :: .ref b :: st) (xw L h) e := s_put (ty := (.array .long)) (by rw [hw]; exact fw_X5_31) hd (xw_at (o := 0) ho hj rfl) (xw_lt (o := 0) ho hj rfl) (by show 5 < 6; decide) (fun _ => rfl) (fun _ => rfl) ((xw_up (o := 0) (f' := va_up f 5 none) (s' := s) (x := .inr (5, (xF5 b f s).set 5 .null)) ho hj rfl xu5_R).trans (by rw [hL])) k
/-- changes of 0 -/
theorem xg_X5_40 (j : Nat) (ho : xok (L.map xk) h.2.1) (hj : L[j]? = some (0, b, f, s)) (hd : decode M.1 pc = .ok (.getfield 40, 3)) (hw : M.2.1 = RX5) (k : aS l d M n0 S0 Φ (pc + 3) lv (.int (s.1 1) :: st) (xw L h) e) : aS l d M n0 S0 Φ pc lv (.ref b :: st) (xw L h) e := s_get (by rw [hw]; exact fl_X5_40) hd (xw_at (o := 0) ho hj rfl) (xw_lt (o := 0) ho hj rfl) (show (xF0 b f s)[1]? = some (.int (s.1 1)) from rfl) k
theorem xp_X5_40 (j : Nat) {v : Int32} {F : RS → Option γ} (ho : xok (L.map xk) h.2.1) (hj : L[j]? = some (0, b, f, s)) (hL : ∀ s, L.set j (0, b, f, s) = L' s) (hd : decode M.1 pc = .ok (.putfield 40, 3)) (hw : M.2.1 = RX5) (k : ∀ s, aS l d M n0 S0 Φ (pc + 3) lv st (xw (L' s) h) (F s)) : aS l d M n0 S0 Φ pc lv (.int v :: .ref b :: st) (xw L h) (thn (uI s 1 v) F) := s_put (ty := .int) (by rw [hw]; exact fw_X5_40) hd (xw_at (o := 0) ho hj rfl) (xw_lt (o := 0) ho hj rfl) (by show 1 < 16; decide) (fun _ => rfl) (fun _ => rfl) ((xw_up (o := 0) (f' := f) (s' := uI s 1 v) (x := .inr (0, (xF0 b f s).set 1 (.int v))) ho hj rfl xu0_I).trans (by rw [hL])) (k (uI s 1 v))
/-- below of 0 -/
theorem xg_X5_47 (j : Nat) (ho : xok (L.map xk) h.2.1) (hj : L[j]? = some (0, b, f, s)) (hd : decode M.1 pc = .ok (.getfield 47, 3)) (hw : M.2.1 = RX5) (k : aS l d M n0 S0 Φ (pc + 3) lv (.ref (b + 9) :: st) (xw L h) e) : aS l d M n0 S0 Φ pc lv (.ref b :: st) (xw L h) e := s_get (by rw [hw]; exact fl_X5_47) hd (xw_at (o := 0) ho hj rfl) (xw_lt (o := 0) ho hj rfl) (show (xF0 b f s)[10]? = some (.ref (b + 9)) from rfl) k
/-- above of 0 -/
theorem xg_X5_51 (j : Nat) (ho : xok (L.map xk) h.2.1) (hj : L[j]? = some (0, b, f, s)) (hd : decode M.1 pc = .ok (.getfield 51, 3)) (hw : M.2.1 = RX5) (k : aS l d M n0 S0 Φ (pc + 3) lv (.ref (b + 10) :: st) (xw L h) e) : aS l d M n0 S0 Φ pc lv (.ref b :: st) (xw L h) e := s_get (by rw [hw]; exact fl_X5_51) hd (xw_at (o := 0) ho hj rfl) (xw_lt (o := 0) ho hj rfl) (show (xF0 b f s)[11]? = some (.ref (b + 10)) from rfl) k
/-- whole of 6 -/
theorem xg_X6_15 (j : Nat) (ho : xok (L.map xk) h.2.1) (hj : L[j]? = some (6, b, f, s)) (hd : decode M.1 pc = .ok (.getfield 15, 3)) (hw : M.2.1 = RX6) (k : aS l d M n0 S0 Φ (pc + 3) lv (.int (s.1 1) :: st) (xw L h) e) : aS l d M n0 S0 Φ pc lv (.ref b :: st) (xw L h) e := s_get (by rw [hw]; exact fl_X6_15) hd (xw_at (o := 0) ho hj rfl) (xw_lt (o := 0) ho hj rfl) (show (xF6 b f s)[1]? = some (.int (s.1 1)) from rfl) k
/-- best of 6 -/
theorem xg_X6_19 (j : Nat) (ho : xok (L.map xk) h.2.1) (hj : L[j]? = some (6, b, f, s)) (hd : decode M.1 pc = .ok (.getfield 19, 3)) (hw : M.2.1 = RX6) (k : aS l d M n0 S0 Φ (pc + 3) lv (.int (s.1 2) :: st) (xw L h) e) : aS l d M n0 S0 Φ pc lv (.ref b :: st) (xw L h) e := s_get (by rw [hw]; exact fl_X6_19) hd (xw_at (o := 0) ho hj rfl) (xw_lt (o := 0) ho hj rfl) (show (xF6 b f s)[2]? = some (.int (s.1 2)) from rfl) k
theorem xp_X6_19 (j : Nat) {v : Int32} {F : RS → Option γ} (ho : xok (L.map xk) h.2.1) (hj : L[j]? = some (6, b, f, s)) (hL : ∀ s, L.set j (6, b, f, s) = L' s) (hd : decode M.1 pc = .ok (.putfield 19, 3)) (hw : M.2.1 = RX6) (k : ∀ s, aS l d M n0 S0 Φ (pc + 3) lv st (xw (L' s) h) (F s)) : aS l d M n0 S0 Φ pc lv (.int v :: .ref b :: st) (xw L h) (thn (uI s 2 v) F) := s_put (ty := .int) (by rw [hw]; exact fw_X6_19) hd (xw_at (o := 0) ho hj rfl) (xw_lt (o := 0) ho hj rfl) (by show 2 < 3; decide) (fun _ => rfl) (fun _ => rfl) ((xw_up (o := 0) (f' := f) (s' := uI s 2 v) (x := .inr (6, (xF6 b f s).set 2 (.int v))) ho hj rfl xu6_I).trans (by rw [hL])) (k (uI s 2 v))
/-- changes of 0 -/
theorem xg_X6_48 (j : Nat) (ho : xok (L.map xk) h.2.1) (hj : L[j]? = some (0, b, f, s)) (hd : decode M.1 pc = .ok (.getfield 48, 3)) (hw : M.2.1 = RX6) (k : aS l d M n0 S0 Φ (pc + 3) lv (.int (s.1 1) :: st) (xw L h) e) : aS l d M n0 S0 Φ pc lv (.ref b :: st) (xw L h) e := s_get (by rw [hw]; exact fl_X6_48) hd (xw_at (o := 0) ho hj rfl) (xw_lt (o := 0) ho hj rfl) (show (xF0 b f s)[1]? = some (.int (s.1 1)) from rfl) k
theorem xp_X6_48 (j : Nat) {v : Int32} {F : RS → Option γ} (ho : xok (L.map xk) h.2.1) (hj : L[j]? = some (0, b, f, s)) (hL : ∀ s, L.set j (0, b, f, s) = L' s) (hd : decode M.1 pc = .ok (.putfield 48, 3)) (hw : M.2.1 = RX6) (k : ∀ s, aS l d M n0 S0 Φ (pc + 3) lv st (xw (L' s) h) (F s)) : aS l d M n0 S0 Φ pc lv (.int v :: .ref b :: st) (xw L h) (thn (uI s 1 v) F) := s_put (ty := .int) (by rw [hw]; exact fw_X6_48) hd (xw_at (o := 0) ho hj rfl) (xw_lt (o := 0) ho hj rfl) (by show 1 < 16; decide) (fun _ => rfl) (fun _ => rfl) ((xw_up (o := 0) (f' := f) (s' := uI s 1 v) (x := .inr (0, (xF0 b f s).set 1 (.int v))) ho hj rfl xu0_I).trans (by rw [hL])) (k (uI s 1 v))
/-- book of 6 -/
theorem xg_X6_9 (j : Nat) {a : Nat} (ho : xok (L.map xk) h.2.1) (hj : L[j]? = some (6, b, f, s)) (hd : decode M.1 pc = .ok (.getfield 9, 3)) (hw : M.2.1 = RX6) (hr : f 0 = some a) (k : aS l d M n0 S0 Φ (pc + 3) lv (.ref a :: st) (xw L h) e) : aS l d M n0 S0 Φ pc lv (.ref b :: st) (xw L h) e := s_get (by rw [hw]; exact fl_X6_9) hd (xw_at (o := 0) ho hj rfl) (xw_lt (o := 0) ho hj rfl) (show (xF6 b f s)[0]? = some (a_rf (f 0)) from rfl) (by rw [hr]; exact k)
theorem xgN_X6_9 (j : Nat) (ho : xok (L.map xk) h.2.1) (hj : L[j]? = some (6, b, f, s)) (hd : decode M.1 pc = .ok (.getfield 9, 3)) (hw : M.2.1 = RX6) (hr : f 0 = none) (k : aS l d M n0 S0 Φ (pc + 3) lv (.null :: st) (xw L h) e) : aS l d M n0 S0 Φ pc lv (.ref b :: st) (xw L h) e := s_get (by rw [hw]; exact fl_X6_9) hd (xw_at (o := 0) ho hj rfl) (xw_lt (o := 0) ho hj rfl) (show (xF6 b f s)[0]? = some (a_rf (f 0)) from rfl) (by rw [hr]; exact k)
/-- book of 7 -/
theorem xg_X7_12 (j : Nat) {a : Nat} (ho : xok (L.map xk) h.2.1) (hj : L[j]? = some (7, b, f, s)) (hd : decode M.1 pc = .ok (.getfield 12, 3)) (hw : M.2.1 = RX7) (hr : f 0 = some a) (k : aS l d M n0 S0 Φ (pc + 3) lv (.ref a :: st) (xw L h) e) : aS l d M n0 S0 Φ pc lv (.ref b :: st) (xw L h) e := s_get (by rw [hw]; exact fl_X7_12) hd (xw_at (o := 0) ho hj rfl) (xw_lt (o := 0) ho hj rfl) (show (xF7 b f s)[0]? = some (a_rf (f 0)) from rfl) (by rw [hr]; exact k)
theorem xgN_X7_12 (j : Nat) (ho : xok (L.map xk) h.2.1) (hj : L[j]? = some (7, b, f, s)) (hd : decode M.1 pc = .ok (.getfield 12, 3)) (hw : M.2.1 = RX7) (hr : f 0 = none) (k : aS l d M n0 S0 Φ (pc + 3) lv (.null :: st) (xw L h) e) : aS l d M n0 S0 Φ pc lv (.ref b :: st) (xw L h) e := s_get (by rw [hw]; exact fl_X7_12) hd (xw_at (o := 0) ho hj rfl) (xw_lt (o := 0) ho hj rfl) (show (xF7 b f s)[0]? = some (a_rf (f 0)) from rfl) (by rw [hr]; exact k)
theorem xp_X7_12 (j : Nat) {a : Nat} {L2 : List XR} (ho : xok (L.map xk) h.2.1) (hj : L[j]? = some (7, b, f, s)) (hL : L.set j (7, b, va_up f 0 (some a), s) = L2) (hd : decode M.1 pc = .ok (.putfield 12, 3)) (hw : M.2.1 = RX7) (k : aS l d M n0 S0 Φ (pc + 3) lv st (xw L2 h) e) : aS l d M n0 S0 Φ pc lv (.ref a :: .ref b :: st) (xw L h) e := s_put (ty := (.object "SwapBook$Book")) (by rw [hw]; exact fw_X7_12) hd (xw_at (o := 0) ho hj rfl) (xw_lt (o := 0) ho hj rfl) (by show 0 < 5; decide) (fun _ => rfl) (fun _ => rfl) ((xw_up (o := 0) (f' := va_up f 0 (some a)) (s' := s) (x := .inr (7, (xF7 b f s).set 0 (.ref a))) ho hj rfl xu7_R).trans (by rw [hL])) k
theorem xpN_X7_12 (j : Nat) {L2 : List XR} (ho : xok (L.map xk) h.2.1) (hj : L[j]? = some (7, b, f, s)) (hL : L.set j (7, b, va_up f 0 none, s) = L2) (hd : decode M.1 pc = .ok (.putfield 12, 3)) (hw : M.2.1 = RX7) (k : aS l d M n0 S0 Φ (pc + 3) lv st (xw L2 h) e) : aS l d M n0 S0 Φ pc lv (.null :: .ref b :: st) (xw L h) e := s_put (ty := (.object "SwapBook$Book")) (by rw [hw]; exact fw_X7_12) hd (xw_at (o := 0) ho hj rfl) (xw_lt (o := 0) ho hj rfl) (by show 0 < 5; decide) (fun _ => rfl) (fun _ => rfl) ((xw_up (o := 0) (f' := va_up f 0 none) (s' := s) (x := .inr (7, (xF7 b f s).set 0 .null)) ho hj rfl xu7_R).trans (by rw [hL])) k
/-- log of 7 -/
theorem xg_X7_18 (j : Nat) {a : Nat} (ho : xok (L.map xk) h.2.1) (hj : L[j]? = some (7, b, f, s)) (hd : decode M.1 pc = .ok (.getfield 18, 3)) (hw : M.2.1 = RX7) (hr : f 1 = some a) (k : aS l d M n0 S0 Φ (pc + 3) lv (.ref a :: st) (xw L h) e) : aS l d M n0 S0 Φ pc lv (.ref b :: st) (xw L h) e := s_get (by rw [hw]; exact fl_X7_18) hd (xw_at (o := 0) ho hj rfl) (xw_lt (o := 0) ho hj rfl) (show (xF7 b f s)[1]? = some (a_rf (f 1)) from rfl) (by rw [hr]; exact k)
theorem xgN_X7_18 (j : Nat) (ho : xok (L.map xk) h.2.1) (hj : L[j]? = some (7, b, f, s)) (hd : decode M.1 pc = .ok (.getfield 18, 3)) (hw : M.2.1 = RX7) (hr : f 1 = none) (k : aS l d M n0 S0 Φ (pc + 3) lv (.null :: st) (xw L h) e) : aS l d M n0 S0 Φ pc lv (.ref b :: st) (xw L h) e := s_get (by rw [hw]; exact fl_X7_18) hd (xw_at (o := 0) ho hj rfl) (xw_lt (o := 0) ho hj rfl) (show (xF7 b f s)[1]? = some (a_rf (f 1)) from rfl) (by rw [hr]; exact k)
theorem xp_X7_18 (j : Nat) {a : Nat} {L2 : List XR} (ho : xok (L.map xk) h.2.1) (hj : L[j]? = some (7, b, f, s)) (hL : L.set j (7, b, va_up f 1 (some a), s) = L2) (hd : decode M.1 pc = .ok (.putfield 18, 3)) (hw : M.2.1 = RX7) (k : aS l d M n0 S0 Φ (pc + 3) lv st (xw L2 h) e) : aS l d M n0 S0 Φ pc lv (.ref a :: .ref b :: st) (xw L h) e := s_put (ty := (.object "SwapBook$Log")) (by rw [hw]; exact fw_X7_18) hd (xw_at (o := 0) ho hj rfl) (xw_lt (o := 0) ho hj rfl) (by show 1 < 5; decide) (fun _ => rfl) (fun _ => rfl) ((xw_up (o := 0) (f' := va_up f 1 (some a)) (s' := s) (x := .inr (7, (xF7 b f s).set 1 (.ref a))) ho hj rfl xu7_R).trans (by rw [hL])) k
theorem xpN_X7_18 (j : Nat) {L2 : List XR} (ho : xok (L.map xk) h.2.1) (hj : L[j]? = some (7, b, f, s)) (hL : L.set j (7, b, va_up f 1 none, s) = L2) (hd : decode M.1 pc = .ok (.putfield 18, 3)) (hw : M.2.1 = RX7) (k : aS l d M n0 S0 Φ (pc + 3) lv st (xw L2 h) e) : aS l d M n0 S0 Φ pc lv (.null :: .ref b :: st) (xw L h) e := s_put (ty := (.object "SwapBook$Log")) (by rw [hw]; exact fw_X7_18) hd (xw_at (o := 0) ho hj rfl) (xw_lt (o := 0) ho hj rfl) (by show 1 < 5; decide) (fun _ => rfl) (fun _ => rfl) ((xw_up (o := 0) (f' := va_up f 1 none) (s' := s) (x := .inr (7, (xF7 b f s).set 1 .null)) ho hj rfl xu7_R).trans (by rw [hL])) k
/-- has of 7 -/
theorem xg_X7_22 (j : Nat) (ho : xok (L.map xk) h.2.1) (hj : L[j]? = some (7, b, f, s)) (hd : decode M.1 pc = .ok (.getfield 22, 3)) (hw : M.2.1 = RX7) (k : aS l d M n0 S0 Φ (pc + 3) lv (.ref (b + 15) :: st) (xw L h) e) : aS l d M n0 S0 Φ pc lv (.ref b :: st) (xw L h) e := s_get (by rw [hw]; exact fl_X7_22) hd (xw_at (o := 0) ho hj rfl) (xw_lt (o := 0) ho hj rfl) (show (xF7 b f s)[2]? = some (.ref (b + 15)) from rfl) k
/-- order of 7 -/
theorem xg_X7_26 (j : Nat) (ho : xok (L.map xk) h.2.1) (hj : L[j]? = some (7, b, f, s)) (hd : decode M.1 pc = .ok (.getfield 26, 3)) (hw : M.2.1 = RX7) (k : aS l d M n0 S0 Φ (pc + 3) lv (.ref (b + 16) :: st) (xw L h) e) : aS l d M n0 S0 Φ pc lv (.ref b :: st) (xw L h) e := s_get (by rw [hw]; exact fl_X7_26) hd (xw_at (o := 0) ho hj rfl) (xw_lt (o := 0) ho hj rfl) (show (xF7 b f s)[3]? = some (.ref (b + 16)) from rfl) k
/-- orderLength of 7 -/
theorem xg_X7_29 (j : Nat) (ho : xok (L.map xk) h.2.1) (hj : L[j]? = some (7, b, f, s)) (hd : decode M.1 pc = .ok (.getfield 29, 3)) (hw : M.2.1 = RX7) (k : aS l d M n0 S0 Φ (pc + 3) lv (.int (s.1 4) :: st) (xw L h) e) : aS l d M n0 S0 Φ pc lv (.ref b :: st) (xw L h) e := s_get (by rw [hw]; exact fl_X7_29) hd (xw_at (o := 0) ho hj rfl) (xw_lt (o := 0) ho hj rfl) (show (xF7 b f s)[4]? = some (.int (s.1 4)) from rfl) k
theorem xp_X7_29 (j : Nat) {v : Int32} {F : RS → Option γ} (ho : xok (L.map xk) h.2.1) (hj : L[j]? = some (7, b, f, s)) (hL : ∀ s, L.set j (7, b, f, s) = L' s) (hd : decode M.1 pc = .ok (.putfield 29, 3)) (hw : M.2.1 = RX7) (k : ∀ s, aS l d M n0 S0 Φ (pc + 3) lv st (xw (L' s) h) (F s)) : aS l d M n0 S0 Φ pc lv (.int v :: .ref b :: st) (xw L h) (thn (uI s 4 v) F) := s_put (ty := .int) (by rw [hw]; exact fw_X7_29) hd (xw_at (o := 0) ho hj rfl) (xw_lt (o := 0) ho hj rfl) (by show 4 < 5; decide) (fun _ => rfl) (fun _ => rfl) ((xw_up (o := 0) (f' := f) (s' := uI s 4 v) (x := .inr (7, (xF7 b f s).set 4 (.int v))) ho hj rfl xu7_I).trans (by rw [hL])) (k (uI s 4 v))
/-- direct of 0 -/
theorem xg_X7_43 (j : Nat) (ho : xok (L.map xk) h.2.1) (hj : L[j]? = some (0, b, f, s)) (hd : decode M.1 pc = .ok (.getfield 43, 3)) (hw : M.2.1 = RX7) (k : aS l d M n0 S0 Φ (pc + 3) lv (.ref (b + 8) :: st) (xw L h) e) : aS l d M n0 S0 Φ pc lv (.ref b :: st) (xw L h) e := s_get (by rw [hw]; exact fl_X7_43) hd (xw_at (o := 0) ho hj rfl) (xw_lt (o := 0) ho hj rfl) (show (xF0 b f s)[9]? = some (.ref (b + 8)) from rfl) k
/-- keywordNames of 8 -/
theorem xg_X8_15 (j : Nat) (ho : xok (L.map xk) h.2.1) (hj : L[j]? = some (8, b, f, s)) (hd : decode M.1 pc = .ok (.getfield 15, 3)) (hw : M.2.1 = RX8) (k : aS l d M n0 S0 Φ (pc + 3) lv (.ref (b + 2) :: st) (xw L h) e) : aS l d M n0 S0 Φ pc lv (.ref b :: st) (xw L h) e := s_get (by rw [hw]; exact fl_X8_15) hd (xw_at (o := 0) ho hj rfl) (xw_lt (o := 0) ho hj rfl) (show (xF8 b f s)[1]? = some (.ref (b + 2)) from rfl) k
/-- tapeLength of 8 -/
theorem xg_X8_19 (j : Nat) (ho : xok (L.map xk) h.2.1) (hj : L[j]? = some (8, b, f, s)) (hd : decode M.1 pc = .ok (.getfield 19, 3)) (hw : M.2.1 = RX8) (k : aS l d M n0 S0 Φ (pc + 3) lv (.int (s.1 2) :: st) (xw L h) e) : aS l d M n0 S0 Φ pc lv (.ref b :: st) (xw L h) e := s_get (by rw [hw]; exact fl_X8_19) hd (xw_at (o := 0) ho hj rfl) (xw_lt (o := 0) ho hj rfl) (show (xF8 b f s)[2]? = some (.int (s.1 2)) from rfl) k
theorem xp_X8_19 (j : Nat) {v : Int32} {F : RS → Option γ} (ho : xok (L.map xk) h.2.1) (hj : L[j]? = some (8, b, f, s)) (hL : ∀ s, L.set j (8, b, f, s) = L' s) (hd : decode M.1 pc = .ok (.putfield 19, 3)) (hw : M.2.1 = RX8) (k : ∀ s, aS l d M n0 S0 Φ (pc + 3) lv st (xw (L' s) h) (F s)) : aS l d M n0 S0 Φ pc lv (.int v :: .ref b :: st) (xw L h) (thn (uI s 2 v) F) := s_put (ty := .int) (by rw [hw]; exact fw_X8_19) hd (xw_at (o := 0) ho hj rfl) (xw_lt (o := 0) ho hj rfl) (by show 2 < 11; decide) (fun _ => rfl) (fun _ => rfl) ((xw_up (o := 0) (f' := f) (s' := uI s 2 v) (x := .inr (8, (xF8 b f s).set 2 (.int v))) ho hj rfl xu8_I).trans (by rw [hL])) (k (uI s 2 v))
/-- fault of 8 -/
theorem xg_X8_23 (j : Nat) (ho : xok (L.map xk) h.2.1) (hj : L[j]? = some (8, b, f, s)) (hd : decode M.1 pc = .ok (.getfield 23, 3)) (hw : M.2.1 = RX8) (k : aS l d M n0 S0 Φ (pc + 3) lv (.int (s.1 3) :: st) (xw L h) e) : aS l d M n0 S0 Φ pc lv (.ref b :: st) (xw L h) e := s_get (by rw [hw]; exact fl_X8_23) hd (xw_at (o := 0) ho hj rfl) (xw_lt (o := 0) ho hj rfl) (show (xF8 b f s)[3]? = some (.int (s.1 3)) from rfl) k
theorem xp_X8_23 (j : Nat) {v : Int32} {F : RS → Option γ} (ho : xok (L.map xk) h.2.1) (hj : L[j]? = some (8, b, f, s)) (hL : ∀ s, L.set j (8, b, f, s) = L' s) (hd : decode M.1 pc = .ok (.putfield 23, 3)) (hw : M.2.1 = RX8) (k : ∀ s, aS l d M n0 S0 Φ (pc + 3) lv st (xw (L' s) h) (F s)) : aS l d M n0 S0 Φ pc lv (.int v :: .ref b :: st) (xw L h) (thn (uI s 3 v) F) := s_put (ty := .int) (by rw [hw]; exact fw_X8_23) hd (xw_at (o := 0) ho hj rfl) (xw_lt (o := 0) ho hj rfl) (by show 3 < 11; decide) (fun _ => rfl) (fun _ => rfl) ((xw_up (o := 0) (f' := f) (s' := uI s 3 v) (x := .inr (8, (xF8 b f s).set 3 (.int v))) ho hj rfl xu8_I).trans (by rw [hL])) (k (uI s 3 v))
/-- faultPlace of 8 -/
theorem xg_X8_26 (j : Nat) (ho : xok (L.map xk) h.2.1) (hj : L[j]? = some (8, b, f, s)) (hd : decode M.1 pc = .ok (.getfield 26, 3)) (hw : M.2.1 = RX8) (k : aS l d M n0 S0 Φ (pc + 3) lv (.int (s.1 4) :: st) (xw L h) e) : aS l d M n0 S0 Φ pc lv (.ref b :: st) (xw L h) e := s_get (by rw [hw]; exact fl_X8_26) hd (xw_at (o := 0) ho hj rfl) (xw_lt (o := 0) ho hj rfl) (show (xF8 b f s)[4]? = some (.int (s.1 4)) from rfl) k
theorem xp_X8_26 (j : Nat) {v : Int32} {F : RS → Option γ} (ho : xok (L.map xk) h.2.1) (hj : L[j]? = some (8, b, f, s)) (hL : ∀ s, L.set j (8, b, f, s) = L' s) (hd : decode M.1 pc = .ok (.putfield 26, 3)) (hw : M.2.1 = RX8) (k : ∀ s, aS l d M n0 S0 Φ (pc + 3) lv st (xw (L' s) h) (F s)) : aS l d M n0 S0 Φ pc lv (.int v :: .ref b :: st) (xw L h) (thn (uI s 4 v) F) := s_put (ty := .int) (by rw [hw]; exact fw_X8_26) hd (xw_at (o := 0) ho hj rfl) (xw_lt (o := 0) ho hj rfl) (by show 4 < 11; decide) (fun _ => rfl) (fun _ => rfl) ((xw_up (o := 0) (f' := f) (s' := uI s 4 v) (x := .inr (8, (xF8 b f s).set 4 (.int v))) ho hj rfl xu8_I).trans (by rw [hL])) (k (uI s 4 v))
/-- textLength of 8 -/
theorem xg_X8_29 (j : Nat) (ho : xok (L.map xk) h.2.1) (hj : L[j]? = some (8, b, f, s)) (hd : decode M.1 pc = .ok (.getfield 29, 3)) (hw : M.2.1 = RX8) (k : aS l d M n0 S0 Φ (pc + 3) lv (.int (s.1 5) :: st) (xw L h) e) : aS l d M n0 S0 Φ pc lv (.ref b :: st) (xw L h) e := s_get (by rw [hw]; exact fl_X8_29) hd (xw_at (o := 0) ho hj rfl) (xw_lt (o := 0) ho hj rfl) (show (xF8 b f s)[5]? = some (.int (s.1 5)) from rfl) k
theorem xp_X8_29 (j : Nat) {v : Int32} {F : RS → Option γ} (ho : xok (L.map xk) h.2.1) (hj : L[j]? = some (8, b, f, s)) (hL : ∀ s, L.set j (8, b, f, s) = L' s) (hd : decode M.1 pc = .ok (.putfield 29, 3)) (hw : M.2.1 = RX8) (k : ∀ s, aS l d M n0 S0 Φ (pc + 3) lv st (xw (L' s) h) (F s)) : aS l d M n0 S0 Φ pc lv (.int v :: .ref b :: st) (xw L h) (thn (uI s 5 v) F) := s_put (ty := .int) (by rw [hw]; exact fw_X8_29) hd (xw_at (o := 0) ho hj rfl) (xw_lt (o := 0) ho hj rfl) (by show 5 < 11; decide) (fun _ => rfl) (fun _ => rfl) ((xw_up (o := 0) (f' := f) (s' := uI s 5 v) (x := .inr (8, (xF8 b f s).set 5 (.int v))) ho hj rfl xu8_I).trans (by rw [hL])) (k (uI s 5 v))
/-- kinds of 8 -/
theorem xg_X8_32 (j : Nat) (ho : xok (L.map xk) h.2.1) (hj : L[j]? = some (8, b, f, s)) (hd : decode M.1 pc = .ok (.getfield 32, 3)) (hw : M.2.1 = RX8) (k : aS l d M n0 S0 Φ (pc + 3) lv (.ref (b + 3) :: st) (xw L h) e) : aS l d M n0 S0 Φ pc lv (.ref b :: st) (xw L h) e := s_get (by rw [hw]; exact fl_X8_32) hd (xw_at (o := 0) ho hj rfl) (xw_lt (o := 0) ho hj rfl) (show (xF8 b f s)[6]? = some (.ref (b + 3)) from rfl) k
/-- starts of 8 -/
theorem xg_X8_36 (j : Nat) (ho : xok (L.map xk) h.2.1) (hj : L[j]? = some (8, b, f, s)) (hd : decode M.1 pc = .ok (.getfield 36, 3)) (hw : M.2.1 = RX8) (k : aS l d M n0 S0 Φ (pc + 3) lv (.ref (b + 4) :: st) (xw L h) e) : aS l d M n0 S0 Φ pc lv (.ref b :: st) (xw L h) e := s_get (by rw [hw]; exact fl_X8_36) hd (xw_at (o := 0) ho hj rfl) (xw_lt (o := 0) ho hj rfl) (show (xF8 b f s)[7]? = some (.ref (b + 4)) from rfl) k
/-- values of 8 -/
theorem xg_X8_39 (j : Nat) (ho : xok (L.map xk) h.2.1) (hj : L[j]? = some (8, b, f, s)) (hd : decode M.1 pc = .ok (.getfield 39, 3)) (hw : M.2.1 = RX8) (k : aS l d M n0 S0 Φ (pc + 3) lv (.ref (b + 5) :: st) (xw L h) e) : aS l d M n0 S0 Φ pc lv (.ref b :: st) (xw L h) e := s_get (by rw [hw]; exact fl_X8_39) hd (xw_at (o := 0) ho hj rfl) (xw_lt (o := 0) ho hj rfl) (show (xF8 b f s)[8]? = some (.ref (b + 5)) from rfl) k
/-- last of 8 -/
theorem xg_X8_42 (j : Nat) (ho : xok (L.map xk) h.2.1) (hj : L[j]? = some (8, b, f, s)) (hd : decode M.1 pc = .ok (.getfield 42, 3)) (hw : M.2.1 = RX8) (k : aS l d M n0 S0 Φ (pc + 3) lv (.int (s.1 9) :: st) (xw L h) e) : aS l d M n0 S0 Φ pc lv (.ref b :: st) (xw L h) e := s_get (by rw [hw]; exact fl_X8_42) hd (xw_at (o := 0) ho hj rfl) (xw_lt (o := 0) ho hj rfl) (show (xF8 b f s)[9]? = some (.int (s.1 9)) from rfl) k
theorem xp_X8_42 (j : Nat) {v : Int32} {F : RS → Option γ} (ho : xok (L.map xk) h.2.1) (hj : L[j]? = some (8, b, f, s)) (hL : ∀ s, L.set j (8, b, f, s) = L' s) (hd : decode M.1 pc = .ok (.putfield 42, 3)) (hw : M.2.1 = RX8) (k : ∀ s, aS l d M n0 S0 Φ (pc + 3) lv st (xw (L' s) h) (F s)) : aS l d M n0 S0 Φ pc lv (.int v :: .ref b :: st) (xw L h) (thn (uI s 9 v) F) := s_put (ty := .int) (by rw [hw]; exact fw_X8_42) hd (xw_at (o := 0) ho hj rfl) (xw_lt (o := 0) ho hj rfl) (by show 9 < 11; decide) (fun _ => rfl) (fun _ => rfl) ((xw_up (o := 0) (f' := f) (s' := uI s 9 v) (x := .inr (8, (xF8 b f s).set 9 (.int v))) ho hj rfl xu8_I).trans (by rw [hL])) (k (uI s 9 v))
/-- at of 8 -/
theorem xg_X8_45 (j : Nat) (ho : xok (L.map xk) h.2.1) (hj : L[j]? = some (8, b, f, s)) (hd : decode M.1 pc = .ok (.getfield 45, 3)) (hw : M.2.1 = RX8) (k : aS l d M n0 S0 Φ (pc + 3) lv (.int (s.1 10) :: st) (xw L h) e) : aS l d M n0 S0 Φ pc lv (.ref b :: st) (xw L h) e := s_get (by rw [hw]; exact fl_X8_45) hd (xw_at (o := 0) ho hj rfl) (xw_lt (o := 0) ho hj rfl) (show (xF8 b f s)[10]? = some (.int (s.1 10)) from rfl) k
theorem xp_X8_45 (j : Nat) {v : Int32} {F : RS → Option γ} (ho : xok (L.map xk) h.2.1) (hj : L[j]? = some (8, b, f, s)) (hL : ∀ s, L.set j (8, b, f, s) = L' s) (hd : decode M.1 pc = .ok (.putfield 45, 3)) (hw : M.2.1 = RX8) (k : ∀ s, aS l d M n0 S0 Φ (pc + 3) lv st (xw (L' s) h) (F s)) : aS l d M n0 S0 Φ pc lv (.int v :: .ref b :: st) (xw L h) (thn (uI s 10 v) F) := s_put (ty := .int) (by rw [hw]; exact fw_X8_45) hd (xw_at (o := 0) ho hj rfl) (xw_lt (o := 0) ho hj rfl) (by show 10 < 11; decide) (fun _ => rfl) (fun _ => rfl) ((xw_up (o := 0) (f' := f) (s' := uI s 10 v) (x := .inr (8, (xF8 b f s).set 10 (.int v))) ho hj rfl xu8_I).trans (by rw [hL])) (k (uI s 10 v))
/-- tape of 8 -/
theorem xg_X8_9 (j : Nat) (ho : xok (L.map xk) h.2.1) (hj : L[j]? = some (8, b, f, s)) (hd : decode M.1 pc = .ok (.getfield 9, 3)) (hw : M.2.1 = RX8) (k : aS l d M n0 S0 Φ (pc + 3) lv (.ref (b + 1) :: st) (xw L h) e) : aS l d M n0 S0 Φ pc lv (.ref b :: st) (xw L h) e := s_get (by rw [hw]; exact fl_X8_9) hd (xw_at (o := 0) ho hj rfl) (xw_lt (o := 0) ho hj rfl) (show (xF8 b f s)[0]? = some (.ref (b + 1)) from rfl) k
/-- sort of 9 -/
theorem xg_X9_15 (j : Nat) (ho : xok (L.map xk) h.2.1) (hj : L[j]? = some (9, b, f, s)) (hd : decode M.1 pc = .ok (.getfield 15, 3)) (hw : M.2.1 = RX9) (k : aS l d M n0 S0 Φ (pc + 3) lv (.int (s.1 1) :: st) (xw L h) e) : aS l d M n0 S0 Φ pc lv (.ref b :: st) (xw L h) e := s_get (by rw [hw]; exact fl_X9_15) hd (xw_at (o := 0) ho hj rfl) (xw_lt (o := 0) ho hj rfl) (show (xF9 b f s)[1]? = some (.int (s.1 1)) from rfl) k
theorem xp_X9_15 (j : Nat) {v : Int32} {F : RS → Option γ} (ho : xok (L.map xk) h.2.1) (hj : L[j]? = some (9, b, f, s)) (hL : ∀ s, L.set j (9, b, f, s) = L' s) (hd : decode M.1 pc = .ok (.putfield 15, 3)) (hw : M.2.1 = RX9) (k : ∀ s, aS l d M n0 S0 Φ (pc + 3) lv st (xw (L' s) h) (F s)) : aS l d M n0 S0 Φ pc lv (.int v :: .ref b :: st) (xw L h) (thn (uI s 1 v) F) := s_put (ty := .int) (by rw [hw]; exact fw_X9_15) hd (xw_at (o := 0) ho hj rfl) (xw_lt (o := 0) ho hj rfl) (by show 1 < 3; decide) (fun _ => rfl) (fun _ => rfl) ((xw_up (o := 0) (f' := f) (s' := uI s 1 v) (x := .inr (9, (xF9 b f s).set 1 (.int v))) ho hj rfl xu9_I).trans (by rw [hL])) (k (uI s 1 v))
/-- length of 9 -/
theorem xg_X9_19 (j : Nat) (ho : xok (L.map xk) h.2.1) (hj : L[j]? = some (9, b, f, s)) (hd : decode M.1 pc = .ok (.getfield 19, 3)) (hw : M.2.1 = RX9) (k : aS l d M n0 S0 Φ (pc + 3) lv (.int (s.1 2) :: st) (xw L h) e) : aS l d M n0 S0 Φ pc lv (.ref b :: st) (xw L h) e := s_get (by rw [hw]; exact fl_X9_19) hd (xw_at (o := 0) ho hj rfl) (xw_lt (o := 0) ho hj rfl) (show (xF9 b f s)[2]? = some (.int (s.1 2)) from rfl) k
theorem xp_X9_19 (j : Nat) {v : Int32} {F : RS → Option γ} (ho : xok (L.map xk) h.2.1) (hj : L[j]? = some (9, b, f, s)) (hL : ∀ s, L.set j (9, b, f, s) = L' s) (hd : decode M.1 pc = .ok (.putfield 19, 3)) (hw : M.2.1 = RX9) (k : ∀ s, aS l d M n0 S0 Φ (pc + 3) lv st (xw (L' s) h) (F s)) : aS l d M n0 S0 Φ pc lv (.int v :: .ref b :: st) (xw L h) (thn (uI s 2 v) F) := s_put (ty := .int) (by rw [hw]; exact fw_X9_19) hd (xw_at (o := 0) ho hj rfl) (xw_lt (o := 0) ho hj rfl) (by show 2 < 3; decide) (fun _ => rfl) (fun _ => rfl) ((xw_up (o := 0) (f' := f) (s' := uI s 2 v) (x := .inr (9, (xF9 b f s).set 2 (.int v))) ho hj rfl xu9_I).trans (by rw [hL])) (k (uI s 2 v))
/-- numbers of 9 -/
theorem xg_X9_9 (j : Nat) (ho : xok (L.map xk) h.2.1) (hj : L[j]? = some (9, b, f, s)) (hd : decode M.1 pc = .ok (.getfield 9, 3)) (hw : M.2.1 = RX9) (k : aS l d M n0 S0 Φ (pc + 3) lv (.ref (b + 1) :: st) (xw L h) e) : aS l d M n0 S0 Φ pc lv (.ref b :: st) (xw L h) e := s_get (by rw [hw]; exact fl_X9_9) hd (xw_at (o := 0) ho hj rfl) (xw_lt (o := 0) ho hj rfl) (show (xF9 b f s)[0]? = some (.ref (b + 1)) from rfl) k
theorem xl_0_2 (j : Nat) {i : Int32} (ho : xok (L.map xk) h.2.1) (hj : L[j]? = some (0, b, f, s)) (hd : decode M.1 pc = .ok (.laload, 1)) (k : aS l d M n0 S0 Φ (pc + 1) lv (.long (s.2.2.2 2 i.toNatClampNeg) :: st) (xw L h) e) : aS l d M n0 S0 Φ pc lv (.int i :: .ref (b + 1) :: st) (xw L h) (g_in i 4 e) := s_lald hd (xw_at ho hj rfl) (xw_lt ho hj rfl) k
theorem xs_0_2 (j : Nat) {i : Int32} {v : Int64} {F : RS → Option γ} (ho : xok (L.map xk) h.2.1) (hj : L[j]? = some (0, b, f, s)) (hL : ∀ s, L.set j (0, b, f, s) = L' s) (hd : decode M.1 pc = .ok (.lastore, 1)) (k : ∀ s, aS l d M n0 S0 Φ (pc + 1) lv st (xw (L' s) h) (F s)) : aS l d M n0 S0 Φ pc lv (.long v :: .int i :: .ref (b + 1) :: st) (xw L h) (g_in i 4 (thn (uB s 2 (vp_updL (s.2.2.2 2) i.toNatClampNeg v)) F)) := s_last hd (xw_at ho hj rfl) (xw_lt ho hj rfl) ((xw_up (s' := uB s 2 (vp_updL (s.2.2.2 2) i.toNatClampNeg v)) ho hj rfl xu0_2).trans (by rw [hL])) (k (uB s 2 (vp_updL (s.2.2.2 2) i.toNatClampNeg v)))
theorem xn_0_2 (j : Nat) (ho : xok (L.map xk) h.2.1) (hj : L[j]? = some (0, b, f, s)) (hd : decode M.1 pc = .ok (.arraylength, 1)) (k : aS l d M n0 S0 Φ (pc + 1) lv (.int 4 :: st) (xw L h) e) : aS l d M n0 S0 Φ pc lv (.ref (b + 1) :: st) (xw L h) e := s_alen hd (fun _ => ⟨_, rfl⟩) (xw_at ho hj rfl) (xw_lt ho hj rfl) (show Int32.ofNat 4 = 4 by decide) k
theorem xl_0_3 (j : Nat) {i : Int32} (ho : xok (L.map xk) h.2.1) (hj : L[j]? = some (0, b, f, s)) (hd : decode M.1 pc = .ok (.laload, 1)) (k : aS l d M n0 S0 Φ (pc + 1) lv (.long (s.2.2.2 3 i.toNatClampNeg) :: st) (xw L h) e) : aS l d M n0 S0 Φ pc lv (.int i :: .ref (b + 2) :: st) (xw L h) (g_in i 16 e) := s_lald hd (xw_at ho hj rfl) (xw_lt ho hj rfl) k
theorem xs_0_3 (j : Nat) {i : Int32} {v : Int64} {F : RS → Option γ} (ho : xok (L.map xk) h.2.1) (hj : L[j]? = some (0, b, f, s)) (hL : ∀ s, L.set j (0, b, f, s) = L' s) (hd : decode M.1 pc = .ok (.lastore, 1)) (k : ∀ s, aS l d M n0 S0 Φ (pc + 1) lv st (xw (L' s) h) (F s)) : aS l d M n0 S0 Φ pc lv (.long v :: .int i :: .ref (b + 2) :: st) (xw L h) (g_in i 16 (thn (uB s 3 (vp_updL (s.2.2.2 3) i.toNatClampNeg v)) F)) := s_last hd (xw_at ho hj rfl) (xw_lt ho hj rfl) ((xw_up (s' := uB s 3 (vp_updL (s.2.2.2 3) i.toNatClampNeg v)) ho hj rfl xu0_3).trans (by rw [hL])) (k (uB s 3 (vp_updL (s.2.2.2 3) i.toNatClampNeg v)))
theorem xn_0_3 (j : Nat) (ho : xok (L.map xk) h.2.1) (hj : L[j]? = some (0, b, f, s)) (hd : decode M.1 pc = .ok (.arraylength, 1)) (k : aS l d M n0 S0 Φ (pc + 1) lv (.int 16 :: st) (xw L h) e) : aS l d M n0 S0 Φ pc lv (.ref (b + 2) :: st) (xw L h) e := s_alen hd (fun _ => ⟨_, rfl⟩) (xw_at ho hj rfl) (xw_lt ho hj rfl) (show Int32.ofNat 16 = 16 by decide) k
theorem xl_0_4 (j : Nat) {i : Int32} (ho : xok (L.map xk) h.2.1) (hj : L[j]? = some (0, b, f, s)) (hd : decode M.1 pc = .ok (.iaload, 1)) (k : aS l d M n0 S0 Φ (pc + 1) lv (.int (s.2.2.1 4 i.toNatClampNeg) :: st) (xw L h) e) : aS l d M n0 S0 Φ pc lv (.int i :: .ref (b + 3) :: st) (xw L h) (g_in i 16 e) := s_iald hd (xw_at ho hj rfl) (xw_lt ho hj rfl) k
theorem xs_0_4 (j : Nat) {i v : Int32} {F : RS → Option γ} (ho : xok (L.map xk) h.2.1) (hj : L[j]? = some (0, b, f, s)) (hL : ∀ s, L.set j (0, b, f, s) = L' s) (hd : decode M.1 pc = .ok (.iastore, 1)) (k : ∀ s, aS l d M n0 S0 Φ (pc + 1) lv st (xw (L' s) h) (F s)) : aS l d M n0 S0 Φ pc lv (.int v :: .int i :: .ref (b + 3) :: st) (xw L h) (g_in i 16 (thn (uA s 4 (upd (s.2.2.1 4) i.toNatClampNeg v)) F)) := s_iast hd (xw_at ho hj rfl) (xw_lt ho hj rfl) ((xw_up (s' := uA s 4 (upd (s.2.2.1 4) i.toNatClampNeg v)) ho hj rfl xu0_4).trans (by rw [hL])) (k (uA s 4 (upd (s.2.2.1 4) i.toNatClampNeg v)))
theorem xn_0_4 (j : Nat) (ho : xok (L.map xk) h.2.1) (hj : L[j]? = some (0, b, f, s)) (hd : decode M.1 pc = .ok (.arraylength, 1)) (k : aS l d M n0 S0 Φ (pc + 1) lv (.int 16 :: st) (xw L h) e) : aS l d M n0 S0 Φ pc lv (.ref (b + 3) :: st) (xw L h) e := s_alen hd (fun _ => ⟨_, rfl⟩) (xw_at ho hj rfl) (xw_lt ho hj rfl) (show Int32.ofNat 16 = 16 by decide) k
theorem xl_0_5 (j : Nat) {i : Int32} (ho : xok (L.map xk) h.2.1) (hj : L[j]? = some (0, b, f, s)) (hd : decode M.1 pc = .ok (.iaload, 1)) (k : aS l d M n0 S0 Φ (pc + 1) lv (.int (s.2.2.1 5 i.toNatClampNeg) :: st) (xw L h) e) : aS l d M n0 S0 Φ pc lv (.int i :: .ref (b + 4) :: st) (xw L h) (g_in i 16 e) := s_iald hd (xw_at ho hj rfl) (xw_lt ho hj rfl) k
theorem xs_0_5 (j : Nat) {i v : Int32} {F : RS → Option γ} (ho : xok (L.map xk) h.2.1) (hj : L[j]? = some (0, b, f, s)) (hL : ∀ s, L.set j (0, b, f, s) = L' s) (hd : decode M.1 pc = .ok (.iastore, 1)) (k : ∀ s, aS l d M n0 S0 Φ (pc + 1) lv st (xw (L' s) h) (F s)) : aS l d M n0 S0 Φ pc lv (.int v :: .int i :: .ref (b + 4) :: st) (xw L h) (g_in i 16 (thn (uA s 5 (upd (s.2.2.1 5) i.toNatClampNeg v)) F)) := s_iast hd (xw_at ho hj rfl) (xw_lt ho hj rfl) ((xw_up (s' := uA s 5 (upd (s.2.2.1 5) i.toNatClampNeg v)) ho hj rfl xu0_5).trans (by rw [hL])) (k (uA s 5 (upd (s.2.2.1 5) i.toNatClampNeg v)))
theorem xn_0_5 (j : Nat) (ho : xok (L.map xk) h.2.1) (hj : L[j]? = some (0, b, f, s)) (hd : decode M.1 pc = .ok (.arraylength, 1)) (k : aS l d M n0 S0 Φ (pc + 1) lv (.int 16 :: st) (xw L h) e) : aS l d M n0 S0 Φ pc lv (.ref (b + 4) :: st) (xw L h) e := s_alen hd (fun _ => ⟨_, rfl⟩) (xw_at ho hj rfl) (xw_lt ho hj rfl) (show Int32.ofNat 16 = 16 by decide) k
theorem xl_0_6 (j : Nat) {i : Int32} (ho : xok (L.map xk) h.2.1) (hj : L[j]? = some (0, b, f, s)) (hd : decode M.1 pc = .ok (.iaload, 1)) (k : aS l d M n0 S0 Φ (pc + 1) lv (.int (s.2.2.1 6 i.toNatClampNeg) :: st) (xw L h) e) : aS l d M n0 S0 Φ pc lv (.int i :: .ref (b + 5) :: st) (xw L h) (g_in i 16 e) := s_iald hd (xw_at ho hj rfl) (xw_lt ho hj rfl) k
theorem xs_0_6 (j : Nat) {i v : Int32} {F : RS → Option γ} (ho : xok (L.map xk) h.2.1) (hj : L[j]? = some (0, b, f, s)) (hL : ∀ s, L.set j (0, b, f, s) = L' s) (hd : decode M.1 pc = .ok (.iastore, 1)) (k : ∀ s, aS l d M n0 S0 Φ (pc + 1) lv st (xw (L' s) h) (F s)) : aS l d M n0 S0 Φ pc lv (.int v :: .int i :: .ref (b + 5) :: st) (xw L h) (g_in i 16 (thn (uA s 6 (upd (s.2.2.1 6) i.toNatClampNeg v)) F)) := s_iast hd (xw_at ho hj rfl) (xw_lt ho hj rfl) ((xw_up (s' := uA s 6 (upd (s.2.2.1 6) i.toNatClampNeg v)) ho hj rfl xu0_6).trans (by rw [hL])) (k (uA s 6 (upd (s.2.2.1 6) i.toNatClampNeg v)))
theorem xn_0_6 (j : Nat) (ho : xok (L.map xk) h.2.1) (hj : L[j]? = some (0, b, f, s)) (hd : decode M.1 pc = .ok (.arraylength, 1)) (k : aS l d M n0 S0 Φ (pc + 1) lv (.int 16 :: st) (xw L h) e) : aS l d M n0 S0 Φ pc lv (.ref (b + 5) :: st) (xw L h) e := s_alen hd (fun _ => ⟨_, rfl⟩) (xw_at ho hj rfl) (xw_lt ho hj rfl) (show Int32.ofNat 16 = 16 by decide) k
theorem xl_0_7 (j : Nat) {i : Int32} (ho : xok (L.map xk) h.2.1) (hj : L[j]? = some (0, b, f, s)) (hd : decode M.1 pc = .ok (.iaload, 1)) (k : aS l d M n0 S0 Φ (pc + 1) lv (.int (s.2.2.1 7 i.toNatClampNeg) :: st) (xw L h) e) : aS l d M n0 S0 Φ pc lv (.int i :: .ref (b + 6) :: st) (xw L h) (g_in i 16 e) := s_iald hd (xw_at ho hj rfl) (xw_lt ho hj rfl) k
theorem xs_0_7 (j : Nat) {i v : Int32} {F : RS → Option γ} (ho : xok (L.map xk) h.2.1) (hj : L[j]? = some (0, b, f, s)) (hL : ∀ s, L.set j (0, b, f, s) = L' s) (hd : decode M.1 pc = .ok (.iastore, 1)) (k : ∀ s, aS l d M n0 S0 Φ (pc + 1) lv st (xw (L' s) h) (F s)) : aS l d M n0 S0 Φ pc lv (.int v :: .int i :: .ref (b + 6) :: st) (xw L h) (g_in i 16 (thn (uA s 7 (upd (s.2.2.1 7) i.toNatClampNeg v)) F)) := s_iast hd (xw_at ho hj rfl) (xw_lt ho hj rfl) ((xw_up (s' := uA s 7 (upd (s.2.2.1 7) i.toNatClampNeg v)) ho hj rfl xu0_7).trans (by rw [hL])) (k (uA s 7 (upd (s.2.2.1 7) i.toNatClampNeg v)))
theorem xn_0_7 (j : Nat) (ho : xok (L.map xk) h.2.1) (hj : L[j]? = some (0, b, f, s)) (hd : decode M.1 pc = .ok (.arraylength, 1)) (k : aS l d M n0 S0 Φ (pc + 1) lv (.int 16 :: st) (xw L h) e) : aS l d M n0 S0 Φ pc lv (.ref (b + 6) :: st) (xw L h) e := s_alen hd (fun _ => ⟨_, rfl⟩) (xw_at ho hj rfl) (xw_lt ho hj rfl) (show Int32.ofNat 16 = 16 by decide) k
theorem xl_0_8 (j : Nat) {i : Int32} (ho : xok (L.map xk) h.2.1) (hj : L[j]? = some (0, b, f, s)) (hd : decode M.1 pc = .ok (.iaload, 1)) (k : aS l d M n0 S0 Φ (pc + 1) lv (.int (s.2.2.1 8 i.toNatClampNeg) :: st) (xw L h) e) : aS l d M n0 S0 Φ pc lv (.int i :: .ref (b + 7) :: st) (xw L h) (g_in i 16 e) := s_iald hd (xw_at ho hj rfl) (xw_lt ho hj rfl) k
theorem xs_0_8 (j : Nat) {i v : Int32} {F : RS → Option γ} (ho : xok (L.map xk) h.2.1) (hj : L[j]? = some (0, b, f, s)) (hL : ∀ s, L.set j (0, b, f, s) = L' s) (hd : decode M.1 pc = .ok (.iastore, 1)) (k : ∀ s, aS l d M n0 S0 Φ (pc + 1) lv st (xw (L' s) h) (F s)) : aS l d M n0 S0 Φ pc lv (.int v :: .int i :: .ref (b + 7) :: st) (xw L h) (g_in i 16 (thn (uA s 8 (upd (s.2.2.1 8) i.toNatClampNeg v)) F)) := s_iast hd (xw_at ho hj rfl) (xw_lt ho hj rfl) ((xw_up (s' := uA s 8 (upd (s.2.2.1 8) i.toNatClampNeg v)) ho hj rfl xu0_8).trans (by rw [hL])) (k (uA s 8 (upd (s.2.2.1 8) i.toNatClampNeg v)))
theorem xn_0_8 (j : Nat) (ho : xok (L.map xk) h.2.1) (hj : L[j]? = some (0, b, f, s)) (hd : decode M.1 pc = .ok (.arraylength, 1)) (k : aS l d M n0 S0 Φ (pc + 1) lv (.int 16 :: st) (xw L h) e) : aS l d M n0 S0 Φ pc lv (.ref (b + 7) :: st) (xw L h) e := s_alen hd (fun _ => ⟨_, rfl⟩) (xw_at ho hj rfl) (xw_lt ho hj rfl) (show Int32.ofNat 16 = 16 by decide) k
theorem xl_0_9 (j : Nat) {i : Int32} (ho : xok (L.map xk) h.2.1) (hj : L[j]? = some (0, b, f, s)) (hd : decode M.1 pc = .ok (.iaload, 1)) (k : aS l d M n0 S0 Φ (pc + 1) lv (.int (s.2.2.1 9 i.toNatClampNeg) :: st) (xw L h) e) : aS l d M n0 S0 Φ pc lv (.int i :: .ref (b + 8) :: st) (xw L h) (g_in i 16 e) := s_iald hd (xw_at ho hj rfl) (xw_lt ho hj rfl) k
theorem xs_0_9 (j : Nat) {i v : Int32} {F : RS → Option γ} (ho : xok (L.map xk) h.2.1) (hj : L[j]? = some (0, b, f, s)) (hL : ∀ s, L.set j (0, b, f, s) = L' s) (hd : decode M.1 pc = .ok (.iastore, 1)) (k : ∀ s, aS l d M n0 S0 Φ (pc + 1) lv st (xw (L' s) h) (F s)) : aS l d M n0 S0 Φ pc lv (.int v :: .int i :: .ref (b + 8) :: st) (xw L h) (g_in i 16 (thn (uA s 9 (upd (s.2.2.1 9) i.toNatClampNeg v)) F)) := s_iast hd (xw_at ho hj rfl) (xw_lt ho hj rfl) ((xw_up (s' := uA s 9 (upd (s.2.2.1 9) i.toNatClampNeg v)) ho hj rfl xu0_9).trans (by rw [hL])) (k (uA s 9 (upd (s.2.2.1 9) i.toNatClampNeg v)))
theorem xn_0_9 (j : Nat) (ho : xok (L.map xk) h.2.1) (hj : L[j]? = some (0, b, f, s)) (hd : decode M.1 pc = .ok (.arraylength, 1)) (k : aS l d M n0 S0 Φ (pc + 1) lv (.int 16 :: st) (xw L h) e) : aS l d M n0 S0 Φ pc lv (.ref (b + 8) :: st) (xw L h) e := s_alen hd (fun _ => ⟨_, rfl⟩) (xw_at ho hj rfl) (xw_lt ho hj rfl) (show Int32.ofNat 16 = 16 by decide) k
theorem xl_0_10 (j : Nat) {i : Int32} (ho : xok (L.map xk) h.2.1) (hj : L[j]? = some (0, b, f, s)) (hd : decode M.1 pc = .ok (.iaload, 1)) (k : aS l d M n0 S0 Φ (pc + 1) lv (.int (s.2.2.1 10 i.toNatClampNeg) :: st) (xw L h) e) : aS l d M n0 S0 Φ pc lv (.int i :: .ref (b + 9) :: st) (xw L h) (g_in i 16 e) := s_iald hd (xw_at ho hj rfl) (xw_lt ho hj rfl) k
theorem xs_0_10 (j : Nat) {i v : Int32} {F : RS → Option γ} (ho : xok (L.map xk) h.2.1) (hj : L[j]? = some (0, b, f, s)) (hL : ∀ s, L.set j (0, b, f, s) = L' s) (hd : decode M.1 pc = .ok (.iastore, 1)) (k : ∀ s, aS l d M n0 S0 Φ (pc + 1) lv st (xw (L' s) h) (F s)) : aS l d M n0 S0 Φ pc lv (.int v :: .int i :: .ref (b + 9) :: st) (xw L h) (g_in i 16 (thn (uA s 10 (upd (s.2.2.1 10) i.toNatClampNeg v)) F)) := s_iast hd (xw_at ho hj rfl) (xw_lt ho hj rfl) ((xw_up (s' := uA s 10 (upd (s.2.2.1 10) i.toNatClampNeg v)) ho hj rfl xu0_10).trans (by rw [hL])) (k (uA s 10 (upd (s.2.2.1 10) i.toNatClampNeg v)))
theorem xn_0_10 (j : Nat) (ho : xok (L.map xk) h.2.1) (hj : L[j]? = some (0, b, f, s)) (hd : decode M.1 pc = .ok (.arraylength, 1)) (k : aS l d M n0 S0 Φ (pc + 1) lv (.int 16 :: st) (xw L h) e) : aS l d M n0 S0 Φ pc lv (.ref (b + 9) :: st) (xw L h) e := s_alen hd (fun _ => ⟨_, rfl⟩) (xw_at ho hj rfl) (xw_lt ho hj rfl) (show Int32.ofNat 16 = 16 by decide) k
theorem xl_0_11 (j : Nat) {i : Int32} (ho : xok (L.map xk) h.2.1) (hj : L[j]? = some (0, b, f, s)) (hd : decode M.1 pc = .ok (.iaload, 1)) (k : aS l d M n0 S0 Φ (pc + 1) lv (.int (s.2.2.1 11 i.toNatClampNeg) :: st) (xw L h) e) : aS l d M n0 S0 Φ pc lv (.int i :: .ref (b + 10) :: st) (xw L h) (g_in i 16 e) := s_iald hd (xw_at ho hj rfl) (xw_lt ho hj rfl) k
theorem xs_0_11 (j : Nat) {i v : Int32} {F : RS → Option γ} (ho : xok (L.map xk) h.2.1) (hj : L[j]? = some (0, b, f, s)) (hL : ∀ s, L.set j (0, b, f, s) = L' s) (hd : decode M.1 pc = .ok (.iastore, 1)) (k : ∀ s, aS l d M n0 S0 Φ (pc + 1) lv st (xw (L' s) h) (F s)) : aS l d M n0 S0 Φ pc lv (.int v :: .int i :: .ref (b + 10) :: st) (xw L h) (g_in i 16 (thn (uA s 11 (upd (s.2.2.1 11) i.toNatClampNeg v)) F)) := s_iast hd (xw_at ho hj rfl) (xw_lt ho hj rfl) ((xw_up (s' := uA s 11 (upd (s.2.2.1 11) i.toNatClampNeg v)) ho hj rfl xu0_11).trans (by rw [hL])) (k (uA s 11 (upd (s.2.2.1 11) i.toNatClampNeg v)))
theorem xn_0_11 (j : Nat) (ho : xok (L.map xk) h.2.1) (hj : L[j]? = some (0, b, f, s)) (hd : decode M.1 pc = .ok (.arraylength, 1)) (k : aS l d M n0 S0 Φ (pc + 1) lv (.int 16 :: st) (xw L h) e) : aS l d M n0 S0 Φ pc lv (.ref (b + 10) :: st) (xw L h) e := s_alen hd (fun _ => ⟨_, rfl⟩) (xw_at ho hj rfl) (xw_lt ho hj rfl) (show Int32.ofNat 16 = 16 by decide) k
theorem xl_0_12 (j : Nat) {i : Int32} (ho : xok (L.map xk) h.2.1) (hj : L[j]? = some (0, b, f, s)) (hd : decode M.1 pc = .ok (.iaload, 1)) (k : aS l d M n0 S0 Φ (pc + 1) lv (.int (s.2.2.1 12 i.toNatClampNeg) :: st) (xw L h) e) : aS l d M n0 S0 Φ pc lv (.int i :: .ref (b + 11) :: st) (xw L h) (g_in i 16 e) := s_iald hd (xw_at ho hj rfl) (xw_lt ho hj rfl) k
theorem xs_0_12 (j : Nat) {i v : Int32} {F : RS → Option γ} (ho : xok (L.map xk) h.2.1) (hj : L[j]? = some (0, b, f, s)) (hL : ∀ s, L.set j (0, b, f, s) = L' s) (hd : decode M.1 pc = .ok (.iastore, 1)) (k : ∀ s, aS l d M n0 S0 Φ (pc + 1) lv st (xw (L' s) h) (F s)) : aS l d M n0 S0 Φ pc lv (.int v :: .int i :: .ref (b + 11) :: st) (xw L h) (g_in i 16 (thn (uA s 12 (upd (s.2.2.1 12) i.toNatClampNeg v)) F)) := s_iast hd (xw_at ho hj rfl) (xw_lt ho hj rfl) ((xw_up (s' := uA s 12 (upd (s.2.2.1 12) i.toNatClampNeg v)) ho hj rfl xu0_12).trans (by rw [hL])) (k (uA s 12 (upd (s.2.2.1 12) i.toNatClampNeg v)))
theorem xn_0_12 (j : Nat) (ho : xok (L.map xk) h.2.1) (hj : L[j]? = some (0, b, f, s)) (hd : decode M.1 pc = .ok (.arraylength, 1)) (k : aS l d M n0 S0 Φ (pc + 1) lv (.int 16 :: st) (xw L h) e) : aS l d M n0 S0 Φ pc lv (.ref (b + 11) :: st) (xw L h) e := s_alen hd (fun _ => ⟨_, rfl⟩) (xw_at ho hj rfl) (xw_lt ho hj rfl) (show Int32.ofNat 16 = 16 by decide) k
theorem xl_0_13 (j : Nat) {i : Int32} (ho : xok (L.map xk) h.2.1) (hj : L[j]? = some (0, b, f, s)) (hd : decode M.1 pc = .ok (.iaload, 1)) (k : aS l d M n0 S0 Φ (pc + 1) lv (.int (s.2.2.1 13 i.toNatClampNeg) :: st) (xw L h) e) : aS l d M n0 S0 Φ pc lv (.int i :: .ref (b + 12) :: st) (xw L h) (g_in i 16 e) := s_iald hd (xw_at ho hj rfl) (xw_lt ho hj rfl) k
theorem xs_0_13 (j : Nat) {i v : Int32} {F : RS → Option γ} (ho : xok (L.map xk) h.2.1) (hj : L[j]? = some (0, b, f, s)) (hL : ∀ s, L.set j (0, b, f, s) = L' s) (hd : decode M.1 pc = .ok (.iastore, 1)) (k : ∀ s, aS l d M n0 S0 Φ (pc + 1) lv st (xw (L' s) h) (F s)) : aS l d M n0 S0 Φ pc lv (.int v :: .int i :: .ref (b + 12) :: st) (xw L h) (g_in i 16 (thn (uA s 13 (upd (s.2.2.1 13) i.toNatClampNeg v)) F)) := s_iast hd (xw_at ho hj rfl) (xw_lt ho hj rfl) ((xw_up (s' := uA s 13 (upd (s.2.2.1 13) i.toNatClampNeg v)) ho hj rfl xu0_13).trans (by rw [hL])) (k (uA s 13 (upd (s.2.2.1 13) i.toNatClampNeg v)))
theorem xn_0_13 (j : Nat) (ho : xok (L.map xk) h.2.1) (hj : L[j]? = some (0, b, f, s)) (hd : decode M.1 pc = .ok (.arraylength, 1)) (k : aS l d M n0 S0 Φ (pc + 1) lv (.int 16 :: st) (xw L h) e) : aS l d M n0 S0 Φ pc lv (.ref (b + 12) :: st) (xw L h) e := s_alen hd (fun _ => ⟨_, rfl⟩) (xw_at ho hj rfl) (xw_lt ho hj rfl) (show Int32.ofNat 16 = 16 by decide) k
theorem xl_0_14 (j : Nat) {i : Int32} (ho : xok (L.map xk) h.2.1) (hj : L[j]? = some (0, b, f, s)) (hd : decode M.1 pc = .ok (.iaload, 1)) (k : aS l d M n0 S0 Φ (pc + 1) lv (.int (s.2.2.1 14 i.toNatClampNeg) :: st) (xw L h) e) : aS l d M n0 S0 Φ pc lv (.int i :: .ref (b + 13) :: st) (xw L h) (g_in i 16 e) := s_iald hd (xw_at ho hj rfl) (xw_lt ho hj rfl) k
theorem xs_0_14 (j : Nat) {i v : Int32} {F : RS → Option γ} (ho : xok (L.map xk) h.2.1) (hj : L[j]? = some (0, b, f, s)) (hL : ∀ s, L.set j (0, b, f, s) = L' s) (hd : decode M.1 pc = .ok (.iastore, 1)) (k : ∀ s, aS l d M n0 S0 Φ (pc + 1) lv st (xw (L' s) h) (F s)) : aS l d M n0 S0 Φ pc lv (.int v :: .int i :: .ref (b + 13) :: st) (xw L h) (g_in i 16 (thn (uA s 14 (upd (s.2.2.1 14) i.toNatClampNeg v)) F)) := s_iast hd (xw_at ho hj rfl) (xw_lt ho hj rfl) ((xw_up (s' := uA s 14 (upd (s.2.2.1 14) i.toNatClampNeg v)) ho hj rfl xu0_14).trans (by rw [hL])) (k (uA s 14 (upd (s.2.2.1 14) i.toNatClampNeg v)))
theorem xn_0_14 (j : Nat) (ho : xok (L.map xk) h.2.1) (hj : L[j]? = some (0, b, f, s)) (hd : decode M.1 pc = .ok (.arraylength, 1)) (k : aS l d M n0 S0 Φ (pc + 1) lv (.int 16 :: st) (xw L h) e) : aS l d M n0 S0 Φ pc lv (.ref (b + 13) :: st) (xw L h) e := s_alen hd (fun _ => ⟨_, rfl⟩) (xw_at ho hj rfl) (xw_lt ho hj rfl) (show Int32.ofNat 16 = 16 by decide) k
theorem xl_2_1 (j : Nat) {i : Int32} (ho : xok (L.map xk) h.2.1) (hj : L[j]? = some (2, b, f, s)) (hd : decode M.1 pc = .ok (.iaload, 1)) (k : aS l d M n0 S0 Φ (pc + 1) lv (.int (s.2.2.1 1 i.toNatClampNeg) :: st) (xw L h) e) : aS l d M n0 S0 Φ pc lv (.int i :: .ref (b + 1) :: st) (xw L h) (g_in i 16 e) := s_iald hd (xw_at ho hj rfl) (xw_lt ho hj rfl) k
theorem xs_2_1 (j : Nat) {i v : Int32} {F : RS → Option γ} (ho : xok (L.map xk) h.2.1) (hj : L[j]? = some (2, b, f, s)) (hL : ∀ s, L.set j (2, b, f, s) = L' s) (hd : decode M.1 pc = .ok (.iastore, 1)) (k : ∀ s, aS l d M n0 S0 Φ (pc + 1) lv st (xw (L' s) h) (F s)) : aS l d M n0 S0 Φ pc lv (.int v :: .int i :: .ref (b + 1) :: st) (xw L h) (g_in i 16 (thn (uA s 1 (upd (s.2.2.1 1) i.toNatClampNeg v)) F)) := s_iast hd (xw_at ho hj rfl) (xw_lt ho hj rfl) ((xw_up (s' := uA s 1 (upd (s.2.2.1 1) i.toNatClampNeg v)) ho hj rfl xu2_1).trans (by rw [hL])) (k (uA s 1 (upd (s.2.2.1 1) i.toNatClampNeg v)))
theorem xn_2_1 (j : Nat) (ho : xok (L.map xk) h.2.1) (hj : L[j]? = some (2, b, f, s)) (hd : decode M.1 pc = .ok (.arraylength, 1)) (k : aS l d M n0 S0 Φ (pc + 1) lv (.int 16 :: st) (xw L h) e) : aS l d M n0 S0 Φ pc lv (.ref (b + 1) :: st) (xw L h) e := s_alen hd (fun _ => ⟨_, rfl⟩) (xw_at ho hj rfl) (xw_lt ho hj rfl) (show Int32.ofNat 16 = 16 by decide) k
theorem xl_2_2 (j : Nat) {i : Int32} (ho : xok (L.map xk) h.2.1) (hj : L[j]? = some (2, b, f, s)) (hd : decode M.1 pc = .ok (.iaload, 1)) (k : aS l d M n0 S0 Φ (pc + 1) lv (.int (s.2.2.1 2 i.toNatClampNeg) :: st) (xw L h) e) : aS l d M n0 S0 Φ pc lv (.int i :: .ref (b + 2) :: st) (xw L h) (g_in i 16 e) := s_iald hd (xw_at ho hj rfl) (xw_lt ho hj rfl) k
theorem xs_2_2 (j : Nat) {i v : Int32} {F : RS → Option γ} (ho : xok (L.map xk) h.2.1) (hj : L[j]? = some (2, b, f, s)) (hL : ∀ s, L.set j (2, b, f, s) = L' s) (hd : decode M.1 pc = .ok (.iastore, 1)) (k : ∀ s, aS l d M n0 S0 Φ (pc + 1) lv st (xw (L' s) h) (F s)) : aS l d M n0 S0 Φ pc lv (.int v :: .int i :: .ref (b + 2) :: st) (xw L h) (g_in i 16 (thn (uA s 2 (upd (s.2.2.1 2) i.toNatClampNeg v)) F)) := s_iast hd (xw_at ho hj rfl) (xw_lt ho hj rfl) ((xw_up (s' := uA s 2 (upd (s.2.2.1 2) i.toNatClampNeg v)) ho hj rfl xu2_2).trans (by rw [hL])) (k (uA s 2 (upd (s.2.2.1 2) i.toNatClampNeg v)))
theorem xn_2_2 (j : Nat) (ho : xok (L.map xk) h.2.1) (hj : L[j]? = some (2, b, f, s)) (hd : decode M.1 pc = .ok (.arraylength, 1)) (k : aS l d M n0 S0 Φ (pc + 1) lv (.int 16 :: st) (xw L h) e) : aS l d M n0 S0 Φ pc lv (.ref (b + 2) :: st) (xw L h) e := s_alen hd (fun _ => ⟨_, rfl⟩) (xw_at ho hj rfl) (xw_lt ho hj rfl) (show Int32.ofNat 16 = 16 by decide) k
theorem xl_2_3 (j : Nat) {i : Int32} (ho : xok (L.map xk) h.2.1) (hj : L[j]? = some (2, b, f, s)) (hd : decode M.1 pc = .ok (.iaload, 1)) (k : aS l d M n0 S0 Φ (pc + 1) lv (.int (s.2.2.1 3 i.toNatClampNeg) :: st) (xw L h) e) : aS l d M n0 S0 Φ pc lv (.int i :: .ref (b + 3) :: st) (xw L h) (g_in i 16 e) := s_iald hd (xw_at ho hj rfl) (xw_lt ho hj rfl) k
theorem xs_2_3 (j : Nat) {i v : Int32} {F : RS → Option γ} (ho : xok (L.map xk) h.2.1) (hj : L[j]? = some (2, b, f, s)) (hL : ∀ s, L.set j (2, b, f, s) = L' s) (hd : decode M.1 pc = .ok (.iastore, 1)) (k : ∀ s, aS l d M n0 S0 Φ (pc + 1) lv st (xw (L' s) h) (F s)) : aS l d M n0 S0 Φ pc lv (.int v :: .int i :: .ref (b + 3) :: st) (xw L h) (g_in i 16 (thn (uA s 3 (upd (s.2.2.1 3) i.toNatClampNeg v)) F)) := s_iast hd (xw_at ho hj rfl) (xw_lt ho hj rfl) ((xw_up (s' := uA s 3 (upd (s.2.2.1 3) i.toNatClampNeg v)) ho hj rfl xu2_3).trans (by rw [hL])) (k (uA s 3 (upd (s.2.2.1 3) i.toNatClampNeg v)))
theorem xn_2_3 (j : Nat) (ho : xok (L.map xk) h.2.1) (hj : L[j]? = some (2, b, f, s)) (hd : decode M.1 pc = .ok (.arraylength, 1)) (k : aS l d M n0 S0 Φ (pc + 1) lv (.int 16 :: st) (xw L h) e) : aS l d M n0 S0 Φ pc lv (.ref (b + 3) :: st) (xw L h) e := s_alen hd (fun _ => ⟨_, rfl⟩) (xw_at ho hj rfl) (xw_lt ho hj rfl) (show Int32.ofNat 16 = 16 by decide) k
theorem xl_3_2 (j : Nat) {i : Int32} (ho : xok (L.map xk) h.2.1) (hj : L[j]? = some (3, b, f, s)) (hd : decode M.1 pc = .ok (.iaload, 1)) (k : aS l d M n0 S0 Φ (pc + 1) lv (.int (s.2.2.1 2 i.toNatClampNeg) :: st) (xw L h) e) : aS l d M n0 S0 Φ pc lv (.int i :: .ref (b + 1) :: st) (xw L h) (g_in i 60 e) := s_iald hd (xw_at ho hj rfl) (xw_lt ho hj rfl) k
theorem xs_3_2 (j : Nat) {i v : Int32} {F : RS → Option γ} (ho : xok (L.map xk) h.2.1) (hj : L[j]? = some (3, b, f, s)) (hL : ∀ s, L.set j (3, b, f, s) = L' s) (hd : decode M.1 pc = .ok (.iastore, 1)) (k : ∀ s, aS l d M n0 S0 Φ (pc + 1) lv st (xw (L' s) h) (F s)) : aS l d M n0 S0 Φ pc lv (.int v :: .int i :: .ref (b + 1) :: st) (xw L h) (g_in i 60 (thn (uA s 2 (upd (s.2.2.1 2) i.toNatClampNeg v)) F)) := s_iast hd (xw_at ho hj rfl) (xw_lt ho hj rfl) ((xw_up (s' := uA s 2 (upd (s.2.2.1 2) i.toNatClampNeg v)) ho hj rfl xu3_2).trans (by rw [hL])) (k (uA s 2 (upd (s.2.2.1 2) i.toNatClampNeg v)))
theorem xn_3_2 (j : Nat) (ho : xok (L.map xk) h.2.1) (hj : L[j]? = some (3, b, f, s)) (hd : decode M.1 pc = .ok (.arraylength, 1)) (k : aS l d M n0 S0 Φ (pc + 1) lv (.int 60 :: st) (xw L h) e) : aS l d M n0 S0 Φ pc lv (.ref (b + 1) :: st) (xw L h) e := s_alen hd (fun _ => ⟨_, rfl⟩) (xw_at ho hj rfl) (xw_lt ho hj rfl) (show Int32.ofNat 60 = 60 by decide) k
theorem xl_3_3 (j : Nat) {i : Int32} (ho : xok (L.map xk) h.2.1) (hj : L[j]? = some (3, b, f, s)) (hd : decode M.1 pc = .ok (.iaload, 1)) (k : aS l d M n0 S0 Φ (pc + 1) lv (.int (s.2.2.1 3 i.toNatClampNeg) :: st) (xw L h) e) : aS l d M n0 S0 Φ pc lv (.int i :: .ref (b + 2) :: st) (xw L h) (g_in i 60 e) := s_iald hd (xw_at ho hj rfl) (xw_lt ho hj rfl) k
theorem xs_3_3 (j : Nat) {i v : Int32} {F : RS → Option γ} (ho : xok (L.map xk) h.2.1) (hj : L[j]? = some (3, b, f, s)) (hL : ∀ s, L.set j (3, b, f, s) = L' s) (hd : decode M.1 pc = .ok (.iastore, 1)) (k : ∀ s, aS l d M n0 S0 Φ (pc + 1) lv st (xw (L' s) h) (F s)) : aS l d M n0 S0 Φ pc lv (.int v :: .int i :: .ref (b + 2) :: st) (xw L h) (g_in i 60 (thn (uA s 3 (upd (s.2.2.1 3) i.toNatClampNeg v)) F)) := s_iast hd (xw_at ho hj rfl) (xw_lt ho hj rfl) ((xw_up (s' := uA s 3 (upd (s.2.2.1 3) i.toNatClampNeg v)) ho hj rfl xu3_3).trans (by rw [hL])) (k (uA s 3 (upd (s.2.2.1 3) i.toNatClampNeg v)))
theorem xn_3_3 (j : Nat) (ho : xok (L.map xk) h.2.1) (hj : L[j]? = some (3, b, f, s)) (hd : decode M.1 pc = .ok (.arraylength, 1)) (k : aS l d M n0 S0 Φ (pc + 1) lv (.int 60 :: st) (xw L h) e) : aS l d M n0 S0 Φ pc lv (.ref (b + 2) :: st) (xw L h) e := s_alen hd (fun _ => ⟨_, rfl⟩) (xw_at ho hj rfl) (xw_lt ho hj rfl) (show Int32.ofNat 60 = 60 by decide) k
theorem xl_3_4 (j : Nat) {i : Int32} (ho : xok (L.map xk) h.2.1) (hj : L[j]? = some (3, b, f, s)) (hd : decode M.1 pc = .ok (.iaload, 1)) (k : aS l d M n0 S0 Φ (pc + 1) lv (.int (s.2.2.1 4 i.toNatClampNeg) :: st) (xw L h) e) : aS l d M n0 S0 Φ pc lv (.int i :: .ref (b + 3) :: st) (xw L h) (g_in i 60 e) := s_iald hd (xw_at ho hj rfl) (xw_lt ho hj rfl) k
theorem xs_3_4 (j : Nat) {i v : Int32} {F : RS → Option γ} (ho : xok (L.map xk) h.2.1) (hj : L[j]? = some (3, b, f, s)) (hL : ∀ s, L.set j (3, b, f, s) = L' s) (hd : decode M.1 pc = .ok (.iastore, 1)) (k : ∀ s, aS l d M n0 S0 Φ (pc + 1) lv st (xw (L' s) h) (F s)) : aS l d M n0 S0 Φ pc lv (.int v :: .int i :: .ref (b + 3) :: st) (xw L h) (g_in i 60 (thn (uA s 4 (upd (s.2.2.1 4) i.toNatClampNeg v)) F)) := s_iast hd (xw_at ho hj rfl) (xw_lt ho hj rfl) ((xw_up (s' := uA s 4 (upd (s.2.2.1 4) i.toNatClampNeg v)) ho hj rfl xu3_4).trans (by rw [hL])) (k (uA s 4 (upd (s.2.2.1 4) i.toNatClampNeg v)))
theorem xn_3_4 (j : Nat) (ho : xok (L.map xk) h.2.1) (hj : L[j]? = some (3, b, f, s)) (hd : decode M.1 pc = .ok (.arraylength, 1)) (k : aS l d M n0 S0 Φ (pc + 1) lv (.int 60 :: st) (xw L h) e) : aS l d M n0 S0 Φ pc lv (.ref (b + 3) :: st) (xw L h) e := s_alen hd (fun _ => ⟨_, rfl⟩) (xw_at ho hj rfl) (xw_lt ho hj rfl) (show Int32.ofNat 60 = 60 by decide) k
theorem xl_3_5 (j : Nat) {i : Int32} (ho : xok (L.map xk) h.2.1) (hj : L[j]? = some (3, b, f, s)) (hd : decode M.1 pc = .ok (.iaload, 1)) (k : aS l d M n0 S0 Φ (pc + 1) lv (.int (s.2.2.1 5 i.toNatClampNeg) :: st) (xw L h) e) : aS l d M n0 S0 Φ pc lv (.int i :: .ref (b + 4) :: st) (xw L h) (g_in i 60 e) := s_iald hd (xw_at ho hj rfl) (xw_lt ho hj rfl) k
theorem xs_3_5 (j : Nat) {i v : Int32} {F : RS → Option γ} (ho : xok (L.map xk) h.2.1) (hj : L[j]? = some (3, b, f, s)) (hL : ∀ s, L.set j (3, b, f, s) = L' s) (hd : decode M.1 pc = .ok (.iastore, 1)) (k : ∀ s, aS l d M n0 S0 Φ (pc + 1) lv st (xw (L' s) h) (F s)) : aS l d M n0 S0 Φ pc lv (.int v :: .int i :: .ref (b + 4) :: st) (xw L h) (g_in i 60 (thn (uA s 5 (upd (s.2.2.1 5) i.toNatClampNeg v)) F)) := s_iast hd (xw_at ho hj rfl) (xw_lt ho hj rfl) ((xw_up (s' := uA s 5 (upd (s.2.2.1 5) i.toNatClampNeg v)) ho hj rfl xu3_5).trans (by rw [hL])) (k (uA s 5 (upd (s.2.2.1 5) i.toNatClampNeg v)))
theorem xn_3_5 (j : Nat) (ho : xok (L.map xk) h.2.1) (hj : L[j]? = some (3, b, f, s)) (hd : decode M.1 pc = .ok (.arraylength, 1)) (k : aS l d M n0 S0 Φ (pc + 1) lv (.int 60 :: st) (xw L h) e) : aS l d M n0 S0 Φ pc lv (.ref (b + 4) :: st) (xw L h) e := s_alen hd (fun _ => ⟨_, rfl⟩) (xw_at ho hj rfl) (xw_lt ho hj rfl) (show Int32.ofNat 60 = 60 by decide) k
theorem xl_3_6 (j : Nat) {i : Int32} (ho : xok (L.map xk) h.2.1) (hj : L[j]? = some (3, b, f, s)) (hd : decode M.1 pc = .ok (.baload, 1)) (k : aS l d M n0 S0 Φ (pc + 1) lv (.int (s.2.2.1 6 i.toNatClampNeg) :: st) (xw L h) e) : aS l d M n0 S0 Φ pc lv (.int i :: .ref (b + 5) :: st) (xw L h) (g_in i 60 e) := s_zald hd (xw_at ho hj rfl) (xw_lt ho hj rfl) k
theorem xs_3_6 (j : Nat) {i v : Int32} {F : RS → Option γ} (hz : vp_nar .boolean v = v) (ho : xok (L.map xk) h.2.1) (hj : L[j]? = some (3, b, f, s)) (hL : ∀ s, L.set j (3, b, f, s) = L' s) (hd : decode M.1 pc = .ok (.bastore, 1)) (k : ∀ s, aS l d M n0 S0 Φ (pc + 1) lv st (xw (L' s) h) (F s)) : aS l d M n0 S0 Φ pc lv (.int v :: .int i :: .ref (b + 5) :: st) (xw L h) (g_in i 60 (thn (uA s 6 (upd (s.2.2.1 6) i.toNatClampNeg v)) F)) := s_zast hz hd (xw_at ho hj rfl) (xw_lt ho hj rfl) ((xw_up (s' := uA s 6 (upd (s.2.2.1 6) i.toNatClampNeg v)) ho hj rfl xu3_6).trans (by rw [hL])) (k (uA s 6 (upd (s.2.2.1 6) i.toNatClampNeg v)))
theorem xn_3_6 (j : Nat) (ho : xok (L.map xk) h.2.1) (hj : L[j]? = some (3, b, f, s)) (hd : decode M.1 pc = .ok (.arraylength, 1)) (k : aS l d M n0 S0 Φ (pc + 1) lv (.int 60 :: st) (xw L h) e) : aS l d M n0 S0 Φ pc lv (.ref (b + 5) :: st) (xw L h) e := s_alen hd (fun _ => ⟨_, rfl⟩) (xw_at ho hj rfl) (xw_lt ho hj rfl) (show Int32.ofNat 60 = 60 by decide) k
theorem xl_3_7 (j : Nat) {i : Int32} (ho : xok (L.map xk) h.2.1) (hj : L[j]? = some (3, b, f, s)) (hd : decode M.1 pc = .ok (.iaload, 1)) (k : aS l d M n0 S0 Φ (pc + 1) lv (.int (s.2.2.1 7 i.toNatClampNeg) :: st) (xw L h) e) : aS l d M n0 S0 Φ pc lv (.int i :: .ref (b + 6) :: st) (xw L h) (g_in i 60 e) := s_iald hd (xw_at ho hj rfl) (xw_lt ho hj rfl) k
theorem xs_3_7 (j : Nat) {i v : Int32} {F : RS → Option γ} (ho : xok (L.map xk) h.2.1) (hj : L[j]? = some (3, b, f, s)) (hL : ∀ s, L.set j (3, b, f, s) = L' s) (hd : decode M.1 pc = .ok (.iastore, 1)) (k : ∀ s, aS l d M n0 S0 Φ (pc + 1) lv st (xw (L' s) h) (F s)) : aS l d M n0 S0 Φ pc lv (.int v :: .int i :: .ref (b + 6) :: st) (xw L h) (g_in i 60 (thn (uA s 7 (upd (s.2.2.1 7) i.toNatClampNeg v)) F)) := s_iast hd (xw_at ho hj rfl) (xw_lt ho hj rfl) ((xw_up (s' := uA s 7 (upd (s.2.2.1 7) i.toNatClampNeg v)) ho hj rfl xu3_7).trans (by rw [hL])) (k (uA s 7 (upd (s.2.2.1 7) i.toNatClampNeg v)))
theorem xn_3_7 (j : Nat) (ho : xok (L.map xk) h.2.1) (hj : L[j]? = some (3, b, f, s)) (hd : decode M.1 pc = .ok (.arraylength, 1)) (k : aS l d M n0 S0 Φ (pc + 1) lv (.int 60 :: st) (xw L h) e) : aS l d M n0 S0 Φ pc lv (.ref (b + 6) :: st) (xw L h) e := s_alen hd (fun _ => ⟨_, rfl⟩) (xw_at ho hj rfl) (xw_lt ho hj rfl) (show Int32.ofNat 60 = 60 by decide) k
theorem xl_4_3 (j : Nat) {i : Int32} (ho : xok (L.map xk) h.2.1) (hj : L[j]? = some (4, b, f, s)) (hd : decode M.1 pc = .ok (.iaload, 1)) (k : aS l d M n0 S0 Φ (pc + 1) lv (.int (s.2.2.1 3 i.toNatClampNeg) :: st) (xw L h) e) : aS l d M n0 S0 Φ pc lv (.int i :: .ref (b + 8) :: st) (xw L h) (g_in i 3 e) := s_iald hd (xw_at ho hj rfl) (xw_lt ho hj rfl) k
theorem xs_4_3 (j : Nat) {i v : Int32} {F : RS → Option γ} (ho : xok (L.map xk) h.2.1) (hj : L[j]? = some (4, b, f, s)) (hL : ∀ s, L.set j (4, b, f, s) = L' s) (hd : decode M.1 pc = .ok (.iastore, 1)) (k : ∀ s, aS l d M n0 S0 Φ (pc + 1) lv st (xw (L' s) h) (F s)) : aS l d M n0 S0 Φ pc lv (.int v :: .int i :: .ref (b + 8) :: st) (xw L h) (g_in i 3 (thn (uA s 3 (upd (s.2.2.1 3) i.toNatClampNeg v)) F)) := s_iast hd (xw_at ho hj rfl) (xw_lt ho hj rfl) ((xw_up (s' := uA s 3 (upd (s.2.2.1 3) i.toNatClampNeg v)) ho hj rfl xu4_3).trans (by rw [hL])) (k (uA s 3 (upd (s.2.2.1 3) i.toNatClampNeg v)))
theorem xn_4_3 (j : Nat) (ho : xok (L.map xk) h.2.1) (hj : L[j]? = some (4, b, f, s)) (hd : decode M.1 pc = .ok (.arraylength, 1)) (k : aS l d M n0 S0 Φ (pc + 1) lv (.int 3 :: st) (xw L h) e) : aS l d M n0 S0 Φ pc lv (.ref (b + 8) :: st) (xw L h) e := s_alen hd (fun _ => ⟨_, rfl⟩) (xw_at ho hj rfl) (xw_lt ho hj rfl) (show Int32.ofNat 3 = 3 by decide) k
theorem xl_7_2 (j : Nat) {i : Int32} (ho : xok (L.map xk) h.2.1) (hj : L[j]? = some (7, b, f, s)) (hd : decode M.1 pc = .ok (.iaload, 1)) (k : aS l d M n0 S0 Φ (pc + 1) lv (.int (s.2.2.1 2 i.toNatClampNeg) :: st) (xw L h) e) : aS l d M n0 S0 Φ pc lv (.int i :: .ref (b + 15) :: st) (xw L h) (g_in i 4 e) := s_iald hd (xw_at ho hj rfl) (xw_lt ho hj rfl) k
theorem xs_7_2 (j : Nat) {i v : Int32} {F : RS → Option γ} (ho : xok (L.map xk) h.2.1) (hj : L[j]? = some (7, b, f, s)) (hL : ∀ s, L.set j (7, b, f, s) = L' s) (hd : decode M.1 pc = .ok (.iastore, 1)) (k : ∀ s, aS l d M n0 S0 Φ (pc + 1) lv st (xw (L' s) h) (F s)) : aS l d M n0 S0 Φ pc lv (.int v :: .int i :: .ref (b + 15) :: st) (xw L h) (g_in i 4 (thn (uA s 2 (upd (s.2.2.1 2) i.toNatClampNeg v)) F)) := s_iast hd (xw_at ho hj rfl) (xw_lt ho hj rfl) ((xw_up (s' := uA s 2 (upd (s.2.2.1 2) i.toNatClampNeg v)) ho hj rfl xu7_2).trans (by rw [hL])) (k (uA s 2 (upd (s.2.2.1 2) i.toNatClampNeg v)))
theorem xn_7_2 (j : Nat) (ho : xok (L.map xk) h.2.1) (hj : L[j]? = some (7, b, f, s)) (hd : decode M.1 pc = .ok (.arraylength, 1)) (k : aS l d M n0 S0 Φ (pc + 1) lv (.int 4 :: st) (xw L h) e) : aS l d M n0 S0 Φ pc lv (.ref (b + 15) :: st) (xw L h) e := s_alen hd (fun _ => ⟨_, rfl⟩) (xw_at ho hj rfl) (xw_lt ho hj rfl) (show Int32.ofNat 4 = 4 by decide) k
theorem xl_7_3 (j : Nat) {i : Int32} (ho : xok (L.map xk) h.2.1) (hj : L[j]? = some (7, b, f, s)) (hd : decode M.1 pc = .ok (.iaload, 1)) (k : aS l d M n0 S0 Φ (pc + 1) lv (.int (s.2.2.1 3 i.toNatClampNeg) :: st) (xw L h) e) : aS l d M n0 S0 Φ pc lv (.int i :: .ref (b + 16) :: st) (xw L h) (g_in i 16 e) := s_iald hd (xw_at ho hj rfl) (xw_lt ho hj rfl) k
theorem xs_7_3 (j : Nat) {i v : Int32} {F : RS → Option γ} (ho : xok (L.map xk) h.2.1) (hj : L[j]? = some (7, b, f, s)) (hL : ∀ s, L.set j (7, b, f, s) = L' s) (hd : decode M.1 pc = .ok (.iastore, 1)) (k : ∀ s, aS l d M n0 S0 Φ (pc + 1) lv st (xw (L' s) h) (F s)) : aS l d M n0 S0 Φ pc lv (.int v :: .int i :: .ref (b + 16) :: st) (xw L h) (g_in i 16 (thn (uA s 3 (upd (s.2.2.1 3) i.toNatClampNeg v)) F)) := s_iast hd (xw_at ho hj rfl) (xw_lt ho hj rfl) ((xw_up (s' := uA s 3 (upd (s.2.2.1 3) i.toNatClampNeg v)) ho hj rfl xu7_3).trans (by rw [hL])) (k (uA s 3 (upd (s.2.2.1 3) i.toNatClampNeg v)))
theorem xn_7_3 (j : Nat) (ho : xok (L.map xk) h.2.1) (hj : L[j]? = some (7, b, f, s)) (hd : decode M.1 pc = .ok (.arraylength, 1)) (k : aS l d M n0 S0 Φ (pc + 1) lv (.int 16 :: st) (xw L h) e) : aS l d M n0 S0 Φ pc lv (.ref (b + 16) :: st) (xw L h) e := s_alen hd (fun _ => ⟨_, rfl⟩) (xw_at ho hj rfl) (xw_lt ho hj rfl) (show Int32.ofNat 16 = 16 by decide) k
theorem xl_8_0 (j : Nat) {i : Int32} (ho : xok (L.map xk) h.2.1) (hj : L[j]? = some (8, b, f, s)) (hd : decode M.1 pc = .ok (.baload, 1)) (k : aS l d M n0 S0 Φ (pc + 1) lv (.int (s.2.2.1 0 i.toNatClampNeg) :: st) (xw L h) e) : aS l d M n0 S0 Φ pc lv (.int i :: .ref (b + 1) :: st) (xw L h) (g_in i 900 e) := s_bald hd (xw_at ho hj rfl) (xw_lt ho hj rfl) k
theorem xs_8_0 (j : Nat) {i v : Int32} {F : RS → Option γ} (ho : xok (L.map xk) h.2.1) (hj : L[j]? = some (8, b, f, s)) (hL : ∀ s, L.set j (8, b, f, s) = L' s) (hd : decode M.1 pc = .ok (.bastore, 1)) (k : ∀ s, aS l d M n0 S0 Φ (pc + 1) lv st (xw (L' s) h) (F s)) : aS l d M n0 S0 Φ pc lv (.int v :: .int i :: .ref (b + 1) :: st) (xw L h) (g_in i 900 (thn (uA s 0 (upd (s.2.2.1 0) i.toNatClampNeg v.toInt8.toInt32)) F)) := s_bast hd (xw_at ho hj rfl) (xw_lt ho hj rfl) ((xw_up (s' := uA s 0 (upd (s.2.2.1 0) i.toNatClampNeg v.toInt8.toInt32)) ho hj rfl xu8_0).trans (by rw [hL])) (k (uA s 0 (upd (s.2.2.1 0) i.toNatClampNeg v.toInt8.toInt32)))
theorem xn_8_0 (j : Nat) (ho : xok (L.map xk) h.2.1) (hj : L[j]? = some (8, b, f, s)) (hd : decode M.1 pc = .ok (.arraylength, 1)) (k : aS l d M n0 S0 Φ (pc + 1) lv (.int 900 :: st) (xw L h) e) : aS l d M n0 S0 Φ pc lv (.ref (b + 1) :: st) (xw L h) e := s_alen hd (fun _ => ⟨_, rfl⟩) (xw_at ho hj rfl) (xw_lt ho hj rfl) (show Int32.ofNat 900 = 900 by decide) k
theorem xl_8_1 (j : Nat) {i : Int32} (ho : xok (L.map xk) h.2.1) (hj : L[j]? = some (8, b, f, s)) (hd : decode M.1 pc = .ok (.laload, 1)) (k : aS l d M n0 S0 Φ (pc + 1) lv (.long (s.2.2.2 1 i.toNatClampNeg) :: st) (xw L h) e) : aS l d M n0 S0 Φ pc lv (.int i :: .ref (b + 2) :: st) (xw L h) (g_in i 28 e) := s_lald hd (xw_at ho hj rfl) (xw_lt ho hj rfl) k
theorem xs_8_1 (j : Nat) {i : Int32} {v : Int64} {F : RS → Option γ} (ho : xok (L.map xk) h.2.1) (hj : L[j]? = some (8, b, f, s)) (hL : ∀ s, L.set j (8, b, f, s) = L' s) (hd : decode M.1 pc = .ok (.lastore, 1)) (k : ∀ s, aS l d M n0 S0 Φ (pc + 1) lv st (xw (L' s) h) (F s)) : aS l d M n0 S0 Φ pc lv (.long v :: .int i :: .ref (b + 2) :: st) (xw L h) (g_in i 28 (thn (uB s 1 (vp_updL (s.2.2.2 1) i.toNatClampNeg v)) F)) := s_last hd (xw_at ho hj rfl) (xw_lt ho hj rfl) ((xw_up (s' := uB s 1 (vp_updL (s.2.2.2 1) i.toNatClampNeg v)) ho hj rfl xu8_1).trans (by rw [hL])) (k (uB s 1 (vp_updL (s.2.2.2 1) i.toNatClampNeg v)))
theorem xn_8_1 (j : Nat) (ho : xok (L.map xk) h.2.1) (hj : L[j]? = some (8, b, f, s)) (hd : decode M.1 pc = .ok (.arraylength, 1)) (k : aS l d M n0 S0 Φ (pc + 1) lv (.int 28 :: st) (xw L h) e) : aS l d M n0 S0 Φ pc lv (.ref (b + 2) :: st) (xw L h) e := s_alen hd (fun _ => ⟨_, rfl⟩) (xw_at ho hj rfl) (xw_lt ho hj rfl) (show Int32.ofNat 28 = 28 by decide) k
theorem xl_8_6 (j : Nat) {i : Int32} (ho : xok (L.map xk) h.2.1) (hj : L[j]? = some (8, b, f, s)) (hd : decode M.1 pc = .ok (.iaload, 1)) (k : aS l d M n0 S0 Φ (pc + 1) lv (.int (s.2.2.1 6 i.toNatClampNeg) :: st) (xw L h) e) : aS l d M n0 S0 Φ pc lv (.int i :: .ref (b + 3) :: st) (xw L h) (g_in i 901 e) := s_iald hd (xw_at ho hj rfl) (xw_lt ho hj rfl) k
theorem xs_8_6 (j : Nat) {i v : Int32} {F : RS → Option γ} (ho : xok (L.map xk) h.2.1) (hj : L[j]? = some (8, b, f, s)) (hL : ∀ s, L.set j (8, b, f, s) = L' s) (hd : decode M.1 pc = .ok (.iastore, 1)) (k : ∀ s, aS l d M n0 S0 Φ (pc + 1) lv st (xw (L' s) h) (F s)) : aS l d M n0 S0 Φ pc lv (.int v :: .int i :: .ref (b + 3) :: st) (xw L h) (g_in i 901 (thn (uA s 6 (upd (s.2.2.1 6) i.toNatClampNeg v)) F)) := s_iast hd (xw_at ho hj rfl) (xw_lt ho hj rfl) ((xw_up (s' := uA s 6 (upd (s.2.2.1 6) i.toNatClampNeg v)) ho hj rfl xu8_6).trans (by rw [hL])) (k (uA s 6 (upd (s.2.2.1 6) i.toNatClampNeg v)))
theorem xn_8_6 (j : Nat) (ho : xok (L.map xk) h.2.1) (hj : L[j]? = some (8, b, f, s)) (hd : decode M.1 pc = .ok (.arraylength, 1)) (k : aS l d M n0 S0 Φ (pc + 1) lv (.int 901 :: st) (xw L h) e) : aS l d M n0 S0 Φ pc lv (.ref (b + 3) :: st) (xw L h) e := s_alen hd (fun _ => ⟨_, rfl⟩) (xw_at ho hj rfl) (xw_lt ho hj rfl) (show Int32.ofNat 901 = 901 by decide) k
theorem xl_8_7 (j : Nat) {i : Int32} (ho : xok (L.map xk) h.2.1) (hj : L[j]? = some (8, b, f, s)) (hd : decode M.1 pc = .ok (.iaload, 1)) (k : aS l d M n0 S0 Φ (pc + 1) lv (.int (s.2.2.1 7 i.toNatClampNeg) :: st) (xw L h) e) : aS l d M n0 S0 Φ pc lv (.int i :: .ref (b + 4) :: st) (xw L h) (g_in i 901 e) := s_iald hd (xw_at ho hj rfl) (xw_lt ho hj rfl) k
theorem xs_8_7 (j : Nat) {i v : Int32} {F : RS → Option γ} (ho : xok (L.map xk) h.2.1) (hj : L[j]? = some (8, b, f, s)) (hL : ∀ s, L.set j (8, b, f, s) = L' s) (hd : decode M.1 pc = .ok (.iastore, 1)) (k : ∀ s, aS l d M n0 S0 Φ (pc + 1) lv st (xw (L' s) h) (F s)) : aS l d M n0 S0 Φ pc lv (.int v :: .int i :: .ref (b + 4) :: st) (xw L h) (g_in i 901 (thn (uA s 7 (upd (s.2.2.1 7) i.toNatClampNeg v)) F)) := s_iast hd (xw_at ho hj rfl) (xw_lt ho hj rfl) ((xw_up (s' := uA s 7 (upd (s.2.2.1 7) i.toNatClampNeg v)) ho hj rfl xu8_7).trans (by rw [hL])) (k (uA s 7 (upd (s.2.2.1 7) i.toNatClampNeg v)))
theorem xn_8_7 (j : Nat) (ho : xok (L.map xk) h.2.1) (hj : L[j]? = some (8, b, f, s)) (hd : decode M.1 pc = .ok (.arraylength, 1)) (k : aS l d M n0 S0 Φ (pc + 1) lv (.int 901 :: st) (xw L h) e) : aS l d M n0 S0 Φ pc lv (.ref (b + 4) :: st) (xw L h) e := s_alen hd (fun _ => ⟨_, rfl⟩) (xw_at ho hj rfl) (xw_lt ho hj rfl) (show Int32.ofNat 901 = 901 by decide) k
theorem xl_8_8 (j : Nat) {i : Int32} (ho : xok (L.map xk) h.2.1) (hj : L[j]? = some (8, b, f, s)) (hd : decode M.1 pc = .ok (.laload, 1)) (k : aS l d M n0 S0 Φ (pc + 1) lv (.long (s.2.2.2 8 i.toNatClampNeg) :: st) (xw L h) e) : aS l d M n0 S0 Φ pc lv (.int i :: .ref (b + 5) :: st) (xw L h) (g_in i 901 e) := s_lald hd (xw_at ho hj rfl) (xw_lt ho hj rfl) k
theorem xs_8_8 (j : Nat) {i : Int32} {v : Int64} {F : RS → Option γ} (ho : xok (L.map xk) h.2.1) (hj : L[j]? = some (8, b, f, s)) (hL : ∀ s, L.set j (8, b, f, s) = L' s) (hd : decode M.1 pc = .ok (.lastore, 1)) (k : ∀ s, aS l d M n0 S0 Φ (pc + 1) lv st (xw (L' s) h) (F s)) : aS l d M n0 S0 Φ pc lv (.long v :: .int i :: .ref (b + 5) :: st) (xw L h) (g_in i 901 (thn (uB s 8 (vp_updL (s.2.2.2 8) i.toNatClampNeg v)) F)) := s_last hd (xw_at ho hj rfl) (xw_lt ho hj rfl) ((xw_up (s' := uB s 8 (vp_updL (s.2.2.2 8) i.toNatClampNeg v)) ho hj rfl xu8_8).trans (by rw [hL])) (k (uB s 8 (vp_updL (s.2.2.2 8) i.toNatClampNeg v)))
theorem xn_8_8 (j : Nat) (ho : xok (L.map xk) h.2.1) (hj : L[j]? = some (8, b, f, s)) (hd : decode M.1 pc = .ok (.arraylength, 1)) (k : aS l d M n0 S0 Φ (pc + 1) lv (.int 901 :: st) (xw L h) e) : aS l d M n0 S0 Φ pc lv (.ref (b + 5) :: st) (xw L h) e := s_alen hd (fun _ => ⟨_, rfl⟩) (xw_at ho hj rfl) (xw_lt ho hj rfl) (show Int32.ofNat 901 = 901 by decide) k
theorem xl_9_0 (j : Nat) {i : Int32} (ho : xok (L.map xk) h.2.1) (hj : L[j]? = some (9, b, f, s)) (hd : decode M.1 pc = .ok (.laload, 1)) (k : aS l d M n0 S0 Φ (pc + 1) lv (.long (s.2.2.2 0 i.toNatClampNeg) :: st) (xw L h) e) : aS l d M n0 S0 Φ pc lv (.int i :: .ref (b + 1) :: st) (xw L h) (g_in i 60 e) := s_lald hd (xw_at ho hj rfl) (xw_lt ho hj rfl) k
theorem xs_9_0 (j : Nat) {i : Int32} {v : Int64} {F : RS → Option γ} (ho : xok (L.map xk) h.2.1) (hj : L[j]? = some (9, b, f, s)) (hL : ∀ s, L.set j (9, b, f, s) = L' s) (hd : decode M.1 pc = .ok (.lastore, 1)) (k : ∀ s, aS l d M n0 S0 Φ (pc + 1) lv st (xw (L' s) h) (F s)) : aS l d M n0 S0 Φ pc lv (.long v :: .int i :: .ref (b + 1) :: st) (xw L h) (g_in i 60 (thn (uB s 0 (vp_updL (s.2.2.2 0) i.toNatClampNeg v)) F)) := s_last hd (xw_at ho hj rfl) (xw_lt ho hj rfl) ((xw_up (s' := uB s 0 (vp_updL (s.2.2.2 0) i.toNatClampNeg v)) ho hj rfl xu9_0).trans (by rw [hL])) (k (uB s 0 (vp_updL (s.2.2.2 0) i.toNatClampNeg v)))
theorem xn_9_0 (j : Nat) (ho : xok (L.map xk) h.2.1) (hj : L[j]? = some (9, b, f, s)) (hd : decode M.1 pc = .ok (.arraylength, 1)) (k : aS l d M n0 S0 Φ (pc + 1) lv (.int 60 :: st) (xw L h) e) : aS l d M n0 S0 Φ pc lv (.ref (b + 1) :: st) (xw L h) e := s_alen hd (fun _ => ⟨_, rfl⟩) (xw_at ho hj rfl) (xw_lt ho hj rfl) (show Int32.ofNat 60 = 60 by decide) k
theorem xl_10_0 (j : Nat) {i : Int32} (ho : xok (L.map xk) h.2.1) (hj : L[j]? = some (10, b, f, s)) (hd : decode M.1 pc = .ok (.iaload, 1)) (k : aS l d M n0 S0 Φ (pc + 1) lv (.int (s.2.2.1 0 i.toNatClampNeg) :: st) (xw L h) e) : aS l d M n0 S0 Φ pc lv (.int i :: .ref (b + 1) :: st) (xw L h) (g_in i 4 e) := s_iald hd (xw_at ho hj rfl) (xw_lt ho hj rfl) k
theorem xs_10_0 (j : Nat) {i v : Int32} {F : RS → Option γ} (ho : xok (L.map xk) h.2.1) (hj : L[j]? = some (10, b, f, s)) (hL : ∀ s, L.set j (10, b, f, s) = L' s) (hd : decode M.1 pc = .ok (.iastore, 1)) (k : ∀ s, aS l d M n0 S0 Φ (pc + 1) lv st (xw (L' s) h) (F s)) : aS l d M n0 S0 Φ pc lv (.int v :: .int i :: .ref (b + 1) :: st) (xw L h) (g_in i 4 (thn (uA s 0 (upd (s.2.2.1 0) i.toNatClampNeg v)) F)) := s_iast hd (xw_at ho hj rfl) (xw_lt ho hj rfl) ((xw_up (s' := uA s 0 (upd (s.2.2.1 0) i.toNatClampNeg v)) ho hj rfl xu10_0).trans (by rw [hL])) (k (uA s 0 (upd (s.2.2.1 0) i.toNatClampNeg v)))
theorem xn_10_0 (j : Nat) (ho : xok (L.map xk) h.2.1) (hj : L[j]? = some (10, b, f, s)) (hd : decode M.1 pc = .ok (.arraylength, 1)) (k : aS l d M n0 S0 Φ (pc + 1) lv (.int 4 :: st) (xw L h) e) : aS l d M n0 S0 Φ pc lv (.ref (b + 1) :: st) (xw L h) e := s_alen hd (fun _ => ⟨_, rfl⟩) (xw_at ho hj rfl) (xw_lt ho hj rfl) (show Int32.ofNat 4 = 4 by decide) k
theorem xl_10_11 (j : Nat) {i : Int32} (ho : xok (L.map xk) h.2.1) (hj : L[j]? = some (10, b, f, s)) (hd : decode M.1 pc = .ok (.iaload, 1)) (k : aS l d M n0 S0 Φ (pc + 1) lv (.int (s.2.2.1 11 i.toNatClampNeg) :: st) (xw L h) e) : aS l d M n0 S0 Φ pc lv (.int i :: .ref (b + 23) :: st) (xw L h) (g_in i 20 e) := s_iald hd (xw_at ho hj rfl) (xw_lt ho hj rfl) k
theorem xs_10_11 (j : Nat) {i v : Int32} {F : RS → Option γ} (ho : xok (L.map xk) h.2.1) (hj : L[j]? = some (10, b, f, s)) (hL : ∀ s, L.set j (10, b, f, s) = L' s) (hd : decode M.1 pc = .ok (.iastore, 1)) (k : ∀ s, aS l d M n0 S0 Φ (pc + 1) lv st (xw (L' s) h) (F s)) : aS l d M n0 S0 Φ pc lv (.int v :: .int i :: .ref (b + 23) :: st) (xw L h) (g_in i 20 (thn (uA s 11 (upd (s.2.2.1 11) i.toNatClampNeg v)) F)) := s_iast hd (xw_at ho hj rfl) (xw_lt ho hj rfl) ((xw_up (s' := uA s 11 (upd (s.2.2.1 11) i.toNatClampNeg v)) ho hj rfl xu10_11).trans (by rw [hL])) (k (uA s 11 (upd (s.2.2.1 11) i.toNatClampNeg v)))
theorem xn_10_11 (j : Nat) (ho : xok (L.map xk) h.2.1) (hj : L[j]? = some (10, b, f, s)) (hd : decode M.1 pc = .ok (.arraylength, 1)) (k : aS l d M n0 S0 Φ (pc + 1) lv (.int 20 :: st) (xw L h) e) : aS l d M n0 S0 Φ pc lv (.ref (b + 23) :: st) (xw L h) e := s_alen hd (fun _ => ⟨_, rfl⟩) (xw_at ho hj rfl) (xw_lt ho hj rfl) (show Int32.ofNat 20 = 20 by decide) k
theorem xl_10_12 (j : Nat) {i : Int32} (ho : xok (L.map xk) h.2.1) (hj : L[j]? = some (10, b, f, s)) (hd : decode M.1 pc = .ok (.iaload, 1)) (k : aS l d M n0 S0 Φ (pc + 1) lv (.int (s.2.2.1 12 i.toNatClampNeg) :: st) (xw L h) e) : aS l d M n0 S0 Φ pc lv (.int i :: .ref (b + 24) :: st) (xw L h) (g_in i 20 e) := s_iald hd (xw_at ho hj rfl) (xw_lt ho hj rfl) k
theorem xs_10_12 (j : Nat) {i v : Int32} {F : RS → Option γ} (ho : xok (L.map xk) h.2.1) (hj : L[j]? = some (10, b, f, s)) (hL : ∀ s, L.set j (10, b, f, s) = L' s) (hd : decode M.1 pc = .ok (.iastore, 1)) (k : ∀ s, aS l d M n0 S0 Φ (pc + 1) lv st (xw (L' s) h) (F s)) : aS l d M n0 S0 Φ pc lv (.int v :: .int i :: .ref (b + 24) :: st) (xw L h) (g_in i 20 (thn (uA s 12 (upd (s.2.2.1 12) i.toNatClampNeg v)) F)) := s_iast hd (xw_at ho hj rfl) (xw_lt ho hj rfl) ((xw_up (s' := uA s 12 (upd (s.2.2.1 12) i.toNatClampNeg v)) ho hj rfl xu10_12).trans (by rw [hL])) (k (uA s 12 (upd (s.2.2.1 12) i.toNatClampNeg v)))
theorem xn_10_12 (j : Nat) (ho : xok (L.map xk) h.2.1) (hj : L[j]? = some (10, b, f, s)) (hd : decode M.1 pc = .ok (.arraylength, 1)) (k : aS l d M n0 S0 Φ (pc + 1) lv (.int 20 :: st) (xw L h) e) : aS l d M n0 S0 Φ pc lv (.ref (b + 24) :: st) (xw L h) e := s_alen hd (fun _ => ⟨_, rfl⟩) (xw_at ho hj rfl) (xw_lt ho hj rfl) (show Int32.ofNat 20 = 20 by decide) k
theorem xl_10_13 (j : Nat) {i : Int32} (ho : xok (L.map xk) h.2.1) (hj : L[j]? = some (10, b, f, s)) (hd : decode M.1 pc = .ok (.iaload, 1)) (k : aS l d M n0 S0 Φ (pc + 1) lv (.int (s.2.2.1 13 i.toNatClampNeg) :: st) (xw L h) e) : aS l d M n0 S0 Φ pc lv (.int i :: .ref (b + 25) :: st) (xw L h) (g_in i 20 e) := s_iald hd (xw_at ho hj rfl) (xw_lt ho hj rfl) k
theorem xs_10_13 (j : Nat) {i v : Int32} {F : RS → Option γ} (ho : xok (L.map xk) h.2.1) (hj : L[j]? = some (10, b, f, s)) (hL : ∀ s, L.set j (10, b, f, s) = L' s) (hd : decode M.1 pc = .ok (.iastore, 1)) (k : ∀ s, aS l d M n0 S0 Φ (pc + 1) lv st (xw (L' s) h) (F s)) : aS l d M n0 S0 Φ pc lv (.int v :: .int i :: .ref (b + 25) :: st) (xw L h) (g_in i 20 (thn (uA s 13 (upd (s.2.2.1 13) i.toNatClampNeg v)) F)) := s_iast hd (xw_at ho hj rfl) (xw_lt ho hj rfl) ((xw_up (s' := uA s 13 (upd (s.2.2.1 13) i.toNatClampNeg v)) ho hj rfl xu10_13).trans (by rw [hL])) (k (uA s 13 (upd (s.2.2.1 13) i.toNatClampNeg v)))
theorem xn_10_13 (j : Nat) (ho : xok (L.map xk) h.2.1) (hj : L[j]? = some (10, b, f, s)) (hd : decode M.1 pc = .ok (.arraylength, 1)) (k : aS l d M n0 S0 Φ (pc + 1) lv (.int 20 :: st) (xw L h) e) : aS l d M n0 S0 Φ pc lv (.ref (b + 25) :: st) (xw L h) e := s_alen hd (fun _ => ⟨_, rfl⟩) (xw_at ho hj rfl) (xw_lt ho hj rfl) (show Int32.ofNat 20 = 20 by decide) k
theorem xl_10_14 (j : Nat) {i : Int32} (ho : xok (L.map xk) h.2.1) (hj : L[j]? = some (10, b, f, s)) (hd : decode M.1 pc = .ok (.iaload, 1)) (k : aS l d M n0 S0 Φ (pc + 1) lv (.int (s.2.2.1 14 i.toNatClampNeg) :: st) (xw L h) e) : aS l d M n0 S0 Φ pc lv (.int i :: .ref (b + 26) :: st) (xw L h) (g_in i 20 e) := s_iald hd (xw_at ho hj rfl) (xw_lt ho hj rfl) k
theorem xs_10_14 (j : Nat) {i v : Int32} {F : RS → Option γ} (ho : xok (L.map xk) h.2.1) (hj : L[j]? = some (10, b, f, s)) (hL : ∀ s, L.set j (10, b, f, s) = L' s) (hd : decode M.1 pc = .ok (.iastore, 1)) (k : ∀ s, aS l d M n0 S0 Φ (pc + 1) lv st (xw (L' s) h) (F s)) : aS l d M n0 S0 Φ pc lv (.int v :: .int i :: .ref (b + 26) :: st) (xw L h) (g_in i 20 (thn (uA s 14 (upd (s.2.2.1 14) i.toNatClampNeg v)) F)) := s_iast hd (xw_at ho hj rfl) (xw_lt ho hj rfl) ((xw_up (s' := uA s 14 (upd (s.2.2.1 14) i.toNatClampNeg v)) ho hj rfl xu10_14).trans (by rw [hL])) (k (uA s 14 (upd (s.2.2.1 14) i.toNatClampNeg v)))
theorem xn_10_14 (j : Nat) (ho : xok (L.map xk) h.2.1) (hj : L[j]? = some (10, b, f, s)) (hd : decode M.1 pc = .ok (.arraylength, 1)) (k : aS l d M n0 S0 Φ (pc + 1) lv (.int 20 :: st) (xw L h) e) : aS l d M n0 S0 Φ pc lv (.ref (b + 26) :: st) (xw L h) e := s_alen hd (fun _ => ⟨_, rfl⟩) (xw_at ho hj rfl) (xw_lt ho hj rfl) (show Int32.ofNat 20 = 20 by decide) k
theorem xl_10_15 (j : Nat) {i : Int32} (ho : xok (L.map xk) h.2.1) (hj : L[j]? = some (10, b, f, s)) (hd : decode M.1 pc = .ok (.iaload, 1)) (k : aS l d M n0 S0 Φ (pc + 1) lv (.int (s.2.2.1 15 i.toNatClampNeg) :: st) (xw L h) e) : aS l d M n0 S0 Φ pc lv (.int i :: .ref (b + 27) :: st) (xw L h) (g_in i 60 e) := s_iald hd (xw_at ho hj rfl) (xw_lt ho hj rfl) k
theorem xs_10_15 (j : Nat) {i v : Int32} {F : RS → Option γ} (ho : xok (L.map xk) h.2.1) (hj : L[j]? = some (10, b, f, s)) (hL : ∀ s, L.set j (10, b, f, s) = L' s) (hd : decode M.1 pc = .ok (.iastore, 1)) (k : ∀ s, aS l d M n0 S0 Φ (pc + 1) lv st (xw (L' s) h) (F s)) : aS l d M n0 S0 Φ pc lv (.int v :: .int i :: .ref (b + 27) :: st) (xw L h) (g_in i 60 (thn (uA s 15 (upd (s.2.2.1 15) i.toNatClampNeg v)) F)) := s_iast hd (xw_at ho hj rfl) (xw_lt ho hj rfl) ((xw_up (s' := uA s 15 (upd (s.2.2.1 15) i.toNatClampNeg v)) ho hj rfl xu10_15).trans (by rw [hL])) (k (uA s 15 (upd (s.2.2.1 15) i.toNatClampNeg v)))
theorem xn_10_15 (j : Nat) (ho : xok (L.map xk) h.2.1) (hj : L[j]? = some (10, b, f, s)) (hd : decode M.1 pc = .ok (.arraylength, 1)) (k : aS l d M n0 S0 Φ (pc + 1) lv (.int 60 :: st) (xw L h) e) : aS l d M n0 S0 Φ pc lv (.ref (b + 27) :: st) (xw L h) e := s_alen hd (fun _ => ⟨_, rfl⟩) (xw_at ho hj rfl) (xw_lt ho hj rfl) (show Int32.ofNat 60 = 60 by decide) k
theorem xl_11_8 (j : Nat) {i : Int32} (ho : xok (L.map xk) h.2.1) (hj : L[j]? = some (11, b, f, s)) (hd : decode M.1 pc = .ok (.iaload, 1)) (k : aS l d M n0 S0 Φ (pc + 1) lv (.int (s.2.2.1 8 i.toNatClampNeg) :: st) (xw L h) e) : aS l d M n0 S0 Φ pc lv (.int i :: .ref (b + 78) :: st) (xw L h) (g_in i 5 e) := s_iald hd (xw_at ho hj rfl) (xw_lt ho hj rfl) k
theorem xs_11_8 (j : Nat) {i v : Int32} {F : RS → Option γ} (ho : xok (L.map xk) h.2.1) (hj : L[j]? = some (11, b, f, s)) (hL : ∀ s, L.set j (11, b, f, s) = L' s) (hd : decode M.1 pc = .ok (.iastore, 1)) (k : ∀ s, aS l d M n0 S0 Φ (pc + 1) lv st (xw (L' s) h) (F s)) : aS l d M n0 S0 Φ pc lv (.int v :: .int i :: .ref (b + 78) :: st) (xw L h) (g_in i 5 (thn (uA s 8 (upd (s.2.2.1 8) i.toNatClampNeg v)) F)) := s_iast hd (xw_at ho hj rfl) (xw_lt ho hj rfl) ((xw_up (s' := uA s 8 (upd (s.2.2.1 8) i.toNatClampNeg v)) ho hj rfl xu11_8).trans (by rw [hL])) (k (uA s 8 (upd (s.2.2.1 8) i.toNatClampNeg v)))
theorem xn_11_8 (j : Nat) (ho : xok (L.map xk) h.2.1) (hj : L[j]? = some (11, b, f, s)) (hd : decode M.1 pc = .ok (.arraylength, 1)) (k : aS l d M n0 S0 Φ (pc + 1) lv (.int 5 :: st) (xw L h) e) : aS l d M n0 S0 Φ pc lv (.ref (b + 78) :: st) (xw L h) e := s_alen hd (fun _ => ⟨_, rfl⟩) (xw_at ho hj rfl) (xw_lt ho hj rfl) (show Int32.ofNat 5 = 5 by decide) k
theorem x_trays (j : Nat) {i : Int32} {a : Nat} (ho : xok (L.map xk) h.2.1) (hj : L[j]? = some (11, b, f, s)) (ha : vp_in i 4 → b + 79 + 2 * i.toNatClampNeg = a) (hd : decode M.1 pc = .ok (.aaload, 1)) (k : aS l d M n0 S0 Φ (pc + 1) lv (.ref a :: st) (xw L h) e) : aS l d M n0 S0 Φ pc lv (.int i :: .ref (b + 1) :: st) (xw L h) (g_in i 4 e) := fun z hz => by
  have hv := (g_in_some hz).1
  have hlt : i.toNatClampNeg < 4 := Nat.not_le.mp fun q => hv (Or.inr q)
  exact s_aald (t := 4) (n := 4) (f := fun j => if j < 4 then some (b + 79 + 2 * j) else none) hd (fun _ => rfl) (xw_at ho hj rfl) (xw_lt ho hj rfl) (by show aS l d M n0 S0 Φ (pc + 1) lv (a_rf (if i.toNatClampNeg < 4 then some (b + 79 + 2 * i.toNatClampNeg) else none) :: st) (xw L h) e; rw [if_pos hlt, ha hv]; exact k) z hz
theorem x_marks (j : Nat) {i : Int32} {a : Nat} (ho : xok (L.map xk) h.2.1) (hj : L[j]? = some (11, b, f, s)) (ha : vp_in i 3 → b + 87 + 17 * i.toNatClampNeg = a) (hd : decode M.1 pc = .ok (.aaload, 1)) (k : aS l d M n0 S0 Φ (pc + 1) lv (.ref a :: st) (xw L h) e) : aS l d M n0 S0 Φ pc lv (.int i :: .ref (b + 25) :: st) (xw L h) (g_in i 3 e) := fun z hz => by
  have hv := (g_in_some hz).1
  have hlt : i.toNatClampNeg < 3 := Nat.not_le.mp fun q => hv (Or.inr q)
  exact s_aald (t := 5) (n := 3) (f := fun j => if j < 3 then some (b + 87 + 17 * j) else none) hd (fun _ => rfl) (xw_at ho hj rfl) (xw_lt ho hj rfl) (by show aS l d M n0 S0 Φ (pc + 1) lv (a_rf (if i.toNatClampNeg < 3 then some (b + 87 + 17 * i.toNatClampNeg) else none) :: st) (xw L h) e; rw [if_pos hlt, ha hv]; exact k) z hz
end xRules
