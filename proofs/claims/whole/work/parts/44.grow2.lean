/-! OBJECTS MADE IN METHODS; MARKS -/
def fR (a b c : Option Nat) : Nat → Option Nat
  | 0 => a
  | 1 => b
  | 2 => c
  | _ => none
theorem nH_reg2 {h : aH} {cs : List aC} {k c1 o1 c2 o2 : Nat} {f1 f2 : Nat → Option Nat} {s1 s2 : RS} (hx : ∀ o, cs[o]? = (if o1 ≤ o then xC c1 (h.2.1 + o1) f1 s1 (o - o1) else none).or (if o2 ≤ o then xC c2 (h.2.1 + o2) f2 s2 (o - o2) else none)) : nH h cs k = oH (c1, h.2.1 + o1, f1, s1) (oH (c2, h.2.1 + o2, f2, s2) (bmp h cs.length k)) := by
  refine Prod.ext (funext fun i => ?_) rfl
  show (if h.2.1 ≤ i then (cs[i - h.2.1]?).getD (h.1 i) else h.1 i) = if h.2.1 + o1 ≤ i then (xC c1 (h.2.1 + o1) f1 s1 (i - (h.2.1 + o1))).getD (if h.2.1 + o2 ≤ i then (xC c2 (h.2.1 + o2) f2 s2 (i - (h.2.1 + o2))).getD (h.1 i) else h.1 i) else (if h.2.1 + o2 ≤ i then (xC c2 (h.2.1 + o2) f2 s2 (i - (h.2.1 + o2))).getD (h.1 i) else h.1 i)
  by_cases hi : h.2.1 ≤ i
  · rw [if_pos hi, hx]
    obtain ⟨o, rfl⟩ := Nat.exists_eq_add_of_le hi
    rw [Nat.add_sub_cancel_left, Nat.add_sub_add_left, Nat.add_sub_add_left]
    simp only [Nat.add_le_add_iff_left]
    by_cases h1 : o1 ≤ o
    · rw [if_pos h1, if_pos h1]
      cases xC c1 (h.2.1 + o1) f1 s1 (o - o1) with
      | some x => rfl
      | none =>
        show (if o2 ≤ o then xC c2 (h.2.1 + o2) f2 s2 (o - o2) else none).getD _ = (if o2 ≤ o then (xC c2 (h.2.1 + o2) f2 s2 (o - o2)).getD _ else _)
        by_cases h2 : o2 ≤ o
        · rw [if_pos h2, if_pos h2]
        · rw [if_neg h2, if_neg h2]; rfl
    · rw [if_neg h1, if_neg h1]
      show (if o2 ≤ o then xC c2 (h.2.1 + o2) f2 s2 (o - o2) else none).getD _ = (if o2 ≤ o then (xC c2 (h.2.1 + o2) f2 s2 (o - o2)).getD _ else _)
      by_cases h2 : o2 ≤ o
      · rw [if_pos h2, if_pos h2]
      · rw [if_neg h2, if_neg h2]; rfl
  · rw [if_neg hi, if_neg (by omega), if_neg (by omega)]
theorem xD_lt {c o : Nat} (m : Nat) (hc : ∀ k, xD c (k + m) = false) (h : xD c o = true) : o < m := by
  rcases Nat.lt_or_ge o m with q | q
  · exact q
  · obtain ⟨k, rfl⟩ := Nat.exists_eq_add_of_le q
    rw [Nat.add_comm, hc] at h; cases h
theorem xD0_lt {o : Nat} (h : xD 0 o = true) : o < 14 := xD_lt 14 (fun _ => rfl) h
theorem xD1_lt {o : Nat} (h : xD 1 o = true) : o < 1 := xD_lt 1 (fun _ => rfl) h
theorem xD3_lt {o : Nat} (h : xD 3 o = true) : o < 7 := xD_lt 7 (fun _ => rfl) h
theorem xD6_lt {o : Nat} (h : xD 6 o = true) : o < 1 := xD_lt 1 (fun _ => rfl) h
theorem xD4_eq {o : Nat} (h : xD 4 o = true) : o = 0 ∨ o = 8 := by
  have h1 : o < 9 := xD_lt 9 (fun _ => rfl) h
  by_cases e0 : o = 0
  · exact Or.inl e0
  · by_cases e8 : o = 8
    · exact Or.inr e8
    · exfalso
      have : o = 1 ∨ o = 2 ∨ o = 3 ∨ o = 4 ∨ o = 5 ∨ o = 6 ∨ o = 7 := by omega
      rcases this with rfl | rfl | rfl | rfl | rfl | rfl | rfl <;> cases h
theorem wO_addG {H : aH} {Ω : oT} {n : Nat} (hO : wO H Ω n) {r : XR} (hd : ∀ k, (Ω k).isSome = true → ∀ o o', xD k.1 o = true → xD r.1 o' = true → k.2 + o ≠ r.2.1 + o') (hb : ∀ o, xD r.1 o = true → r.2.1 + o < n) : wO (oH r H) (oU [r] Ω) n := by
  obtain ⟨c, b, f, s⟩ := r
  have hU : ∀ k, oU [(c, b, f, s)] Ω k = if k = xk (c, b, f, s) then some (f, s) else Ω k := fun _ => rfl
  refine ⟨⟨fun k k' h1 h2 hk o o' ho ho' => ?_, fun k h1 o ho => ?_⟩, hO.2.1, fun c' b' f' s' h1 o x hx => ?_⟩
  · rw [hU] at h1 h2
    by_cases e : k = xk (c, b, f, s)
    · by_cases e' : k' = xk (c, b, f, s)
      · exact absurd (e.trans e'.symm) hk
      · rw [if_neg e'] at h2
        subst e
        exact fun q => hd k' h2 o' o ho' ho q.symm
    · rw [if_neg e] at h1
      by_cases e' : k' = xk (c, b, f, s)
      · subst e'
        exact hd k h1 o o' ho ho'
      · rw [if_neg e'] at h2
        exact hO.1.1 k k' h1 h2 hk o o' ho ho'
  · rw [hU] at h1
    by_cases e : k = xk (c, b, f, s)
    · subst e; exact hb o ho
    · rw [if_neg e] at h1
      exact hO.1.2 k h1 o ho
  · rw [hU] at h1
    show (if b ≤ b' + o then (xC c b f s (b' + o - b)).getD (H.1 (b' + o)) else H.1 (b' + o)) = x
    by_cases e : ((c', b') : Nat × Nat) = xk (c, b, f, s)
    · cases e
      rw [if_pos rfl] at h1
      cases h1
      rw [if_pos (Nat.le_add_right _ _), Nat.add_sub_cancel_left, hx]; rfl
    · rw [if_neg e] at h1
      have h2 := hO.2.2 c' b' f' s' h1 o x hx
      have d2 : xD c' o = true := by rw [← xd c' b' f' s', hx]; rfl
      by_cases hb : b ≤ b' + o
      · rw [if_pos hb]
        cases hq : xC c b f s (b' + o - b) with
        | none => exact h2
        | some y =>
          exfalso
          have d1 : xD c (b' + o - b) = true := by rw [← xd c b f s, hq]; rfl
          exact hd (c', b') (by rw [h1]; rfl) o _ d2 d1 (by show b' + o = b + (b' + o - b); omega)
      · rw [if_neg hb]; exact h2
/-- a reader of books, new -/
theorem wO_Reader {H : aH} {Ω : oT} {N r : Nat} (hN : H.2.1 = N) (hO : wO H Ω N) : wO (nH H (kReader N r) 214) (oU [(0, N + 1, fZ, z0), (1, N, fR (some r) (some (N + 1)) none, z0)] Ω) (N + 15) := by
  subst hN
  have e := nH_reg2 (h := H) (k := 214) (cs := kReader H.2.1 r) (c1 := 0) (o1 := 1) (f1 := fZ) (s1 := z0) (c2 := 1) (o2 := 0) (f2 := fR (some r) (some (H.2.1 + 1)) none) (s2 := z0) (fun o => match o with
    | 0 => rfl
    | 1 => rfl
    | 2 => rfl
    | 3 => rfl
    | 4 => rfl
    | 5 => rfl
    | 6 => rfl
    | 7 => rfl
    | 8 => rfl
    | 9 => rfl
    | 10 => rfl
    | 11 => rfl
    | 12 => rfl
    | 13 => rfl
    | 14 => rfl
    | _ + 15 => rfl)
  rw [e]
  have O1 := wO_add (wO_bmp (a := (kReader H.2.1 r).length) (k := 214) hO) (r := (1, H.2.1 + 0, fR (some r) (some (H.2.1 + 1)) none, z0)) (m := H.2.1 + 1) (fun o ho => by have := xD1_lt ho; dsimp only; omega) (by omega) (by show _ ≤ H.2.1 + (kReader H.2.1 r).length; rw [kReader_len]; omega)
  exact wO_add O1 (r := (0, H.2.1 + 1, fZ, z0)) (m := H.2.1 + 15) (fun o ho => by have := xD0_lt ho; dsimp only; omega) (by omega) (by show _ ≤ H.2.1 + (kReader H.2.1 r).length; rw [kReader_len]; omega)
/-- a reader of logs, new -/
theorem wO_LogReader {H : aH} {Ω : oT} {N r t : Nat} (hN : H.2.1 = N) (hO : wO H Ω N) : wO (nH H (kLogReader N r t) 376) (oU [(4, N, fR (some r) (some t) (some (N + 1)), z0), (3, N + 1, fZ, z0)] Ω) (N + 9) := by
  subst hN
  have e := nH_reg2 (h := H) (k := 376) (cs := kLogReader H.2.1 r t) (c1 := 4) (o1 := 0) (f1 := fR (some r) (some t) (some (H.2.1 + 1))) (s1 := z0) (c2 := 3) (o2 := 1) (f2 := fZ) (s2 := z0) (fun o => match o with
    | 0 => rfl
    | 1 => rfl
    | 2 => rfl
    | 3 => rfl
    | 4 => rfl
    | 5 => rfl
    | 6 => rfl
    | 7 => rfl
    | 8 => rfl
    | _ + 9 => rfl)
  rw [e]
  have O1 := wO_add (wO_bmp (a := (kLogReader H.2.1 r t).length) (k := 376) hO) (r := (3, H.2.1 + 1, fZ, z0)) (m := H.2.1 + 9) (fun o ho => by have := xD3_lt ho; dsimp only; omega) (by omega) (by show _ ≤ H.2.1 + (kLogReader H.2.1 r t).length; rw [kLogReader_len]; omega)
  refine wO_addG O1 (r := (4, H.2.1 + 0, fR (some r) (some t) (some (H.2.1 + 1)), z0)) (fun k hk o o' ho ho' => ?_) (fun o ho => by have := xD4_eq ho; dsimp only; omega)
  have h8 := xD4_eq ho'
  by_cases ek : k = (3, H.2.1 + 1)
  · subst ek
    have := xD3_lt ho
    dsimp only
    omega
  · have h2 : (Ω k).isSome = true := by
      have q : oU [(3, H.2.1 + 1, fZ, z0)] Ω k = Ω k := if_neg ek
      rw [q] at hk; exact hk
    have := hO.1.2 k h2 o ho
    dsimp only
    omega
/-- a search, new -/
theorem wO_Search {H : aH} {Ω : oT} {N r : Nat} {a : Int32} (hN : H.2.1 = N) (hO : wO H Ω N) : wO (nH H (kSearch N r a) 3) (oU [(6, N, fR (some r) none none, zW a)] Ω) (N + 1) := by
  subst hN
  have e := nH_reg (h := H) (k := 3) (cs := kSearch H.2.1 r a) (c := 6) (f := fR (some r) none none) (s := zW a) (fun o => match o with
    | 0 => rfl
    | _ + 1 => rfl)
  rw [e]
  exact wO_add (wO_bmp (a := (kSearch H.2.1 r a).length) (k := 3) hO) (r := (6, H.2.1, fR (some r) none none, zW a)) (m := H.2.1 + 1) (fun o ho => by have := xD6_lt ho; dsimp only; omega) (by omega) (by show _ ≤ H.2.1 + (kSearch H.2.1 r a).length; rw [kSearch_len]; omega)
def pX11_bookT (s0 s1 s2 : RS) (b0 N : Nat) (f2 : Nat → Option Nat) (a0 : Int32) : Option (Int32 × RS × RS × RS × RS × (Nat → Option Nat)) :=
  (pX11_bookh s0 s1 a0).bind fun q => (pX11_bookm s0 s1 q).bind fun u => (pX11_bookt s0 s1 s2 z0 z0 b0 N (N + 1) f2 u).bind fun y => some y
theorem pX11_bookT_ok {l : Launch} {H : aH} {Ω : oT} {N b0 : Nat} {f0 f1 f2 : Nat → Option Nat} {s0 s1 s2 : RS} (hN : H.2.1 = N) (hO : wO H Ω N) (h0 : Ω (11, b0) = some (f0, s0)) (h1 : Ω (8, b0 + 2) = some (f1, s1)) (h2 : Ω (7, b0 + 8) = some (f2, s2)) (a0 : Int32) : ∀ x, pX11_bookT s0 s1 s2 b0 N f2 a0 = some x → ∃ H', aMet l 8 yX11_book cX11_book 3 (some .int) [.ref b0, .int a0] H (some (.int x.1)) H' ∧ wO H' (oU [(11, b0, f0, x.2.1), (8, b0 + 2, f1, x.2.2.1), (7, b0 + 8, x.2.2.2.2.2, x.2.2.2.1), (0, N + 1, fZ, x.2.2.2.2.1), (1, N, (fR (some (b0 + 2)) (some (N + 1)) none), z0)] Ω) (N + 15) ∧ H'.2 = (N + 15, H.2.2 + 214) := by
  intro x hx
  obtain ⟨q, hqh, hx⟩ := Option.bind_eq_some_iff.mp hx
  obtain ⟨u, hu, hx⟩ := Option.bind_eq_some_iff.mp hx
  obtain ⟨y, hy, hx⟩ := Option.bind_eq_some_iff.mp hx
  have hxy := Option.some.inj hx
  subst hxy
  have m1 : oM Ω [(11, b0, f0, s0), (8, b0 + 2, f1, s1)] := ⟨h0, h1, trivial⟩
  have e1 := wO_lay hO m1
  have w1 := pX11_bookh_w (l := l) (n0 := N) (S0 := H.2.2) (h := H) (b0 := b0) (f0 := f0) (f1 := f1) (wO_ok hO m1 (by simp)) s0 s1 a0 q hqh
  rw [e1] at w1
  try dsimp only at w1
  have O1 := wO_nH (cs := [.inr (1, [.null, .null])]) (k := 2) hO
  have m2 : oM Ω [(11, b0, f0, s0), (8, b0 + 2, f1, s1)] := ⟨h0, h1, trivial⟩
  have e2 := wO_lay O1 m2
  have w2 := pX11_bookm_w (l := l) (n0 := N) (S0 := H.2.2) (h := (nH H [.inr (1, [.null, .null])] 2)) (b0 := b0) (f0 := f0) (f1 := f1) (r_new := N) (wO_ok O1 m2 (by simp)) s0 s1 q u hu
  rw [e2] at w2
  try dsimp only at w2
  have O2 := wO_Reader (r := b0 + 2) hN hO
  generalize hH2 : nH H (kReader N (b0 + 2)) 214 = H2 at O2
  have z2 : H2.2 = (N + 15, H.2.2 + 214) := by rw [← hH2]; show (H.2.1 + List.length _, _) = _; rw [hN]; rfl
  have g1 : (oU [(0, N + 1, fZ, z0), (1, N, (fR (some (b0 + 2)) (some (N + 1)) none), z0)] Ω) (11, b0) = some (f0, s0) := by simp [oU, xk, h0]
  have g2 : (oU [(0, N + 1, fZ, z0), (1, N, (fR (some (b0 + 2)) (some (N + 1)) none), z0)] Ω) (8, b0 + 2) = some (f1, s1) := by simp [oU, xk, h1]
  have g3 : (oU [(0, N + 1, fZ, z0), (1, N, (fR (some (b0 + 2)) (some (N + 1)) none), z0)] Ω) (7, b0 + 8) = some (f2, s2) := by simp [oU, xk, h2]
  have g4 : (oU [(0, N + 1, fZ, z0), (1, N, (fR (some (b0 + 2)) (some (N + 1)) none), z0)] Ω) (0, N + 1) = some (fZ, z0) := by simp [oU, xk]
  have g5 : (oU [(0, N + 1, fZ, z0), (1, N, (fR (some (b0 + 2)) (some (N + 1)) none), z0)] Ω) (1, N) = some ((fR (some (b0 + 2)) (some (N + 1)) none), z0) := by simp [oU, xk]
  have m4 : oM (oU [(0, N + 1, fZ, z0), (1, N, (fR (some (b0 + 2)) (some (N + 1)) none), z0)] Ω) [(11, b0, f0, s0), (8, b0 + 2, f1, s1), (7, b0 + 8, f2, s2), (1, N, (fR (some (b0 + 2)) (some (N + 1)) none), z0), (0, N + 1, fZ, z0)] := ⟨g1, g2, g3, g5, g4, trivial⟩
  have e4 := wO_lay O2 m4
  have w4 := pX11_bookt_w (l := l) (n0 := N) (S0 := H.2.2) (h := H2) (b0 := b0) (b3 := N) (b4 := N + 1) (f0 := f0) (f1 := f1) (f2 := f2) (f3 := (fR (some (b0 + 2)) (some (N + 1)) none)) (f4 := fZ) (wO_ok O2 m4 (by simp)) rfl rfl s0 s1 s2 z0 z0 u y hy _ _ ⟨rfl, rfl⟩
  rw [e4] at w4
  try dsimp only at w4
  have O4 := wO_up O2 (L := [(11, b0, f0, y.2.1), (8, b0 + 2, f1, y.2.2.1), (7, b0 + 8, y.2.2.2.2.2, y.2.2.2.1), (1, N, (fR (some (b0 + 2)) (some (N + 1)) none), z0), (0, N + 1, fZ, y.2.2.2.2.1)]) (oS_of m4 rfl)
  have u4 : oU [(11, b0, f0, y.2.1), (8, b0 + 2, f1, y.2.2.1), (7, b0 + 8, y.2.2.2.2.2, y.2.2.2.1), (1, N, (fR (some (b0 + 2)) (some (N + 1)) none), z0), (0, N + 1, fZ, y.2.2.2.2.1)] (oU [(0, N + 1, fZ, z0), (1, N, (fR (some (b0 + 2)) (some (N + 1)) none), z0)] Ω) = oU [(11, b0, f0, y.2.1), (8, b0 + 2, f1, y.2.2.1), (7, b0 + 8, y.2.2.2.2.2, y.2.2.2.1), (0, N + 1, fZ, y.2.2.2.2.1)] (oU [(0, N + 1, fZ, z0), (1, N, (fR (some (b0 + 2)) (some (N + 1)) none), z0)] Ω) := (oU_k (oU_k (oU_k (oU_s (oU_k rfl) (by simp [oU, xk])))))
  rw [u4] at O4
  generalize hH4 : xw [(11, b0, f0, y.2.1), (8, b0 + 2, f1, y.2.2.1), (7, b0 + 8, y.2.2.2.2.2, y.2.2.2.1), (1, N, (fR (some (b0 + 2)) (some (N + 1)) none), z0), (0, N + 1, fZ, y.2.2.2.2.1)] H2 = H4 at O4 w4
  have z4 : H4.2 = H2.2 := by rw [← hH4]; rfl
  have g6 : (oU [(11, b0, f0, y.2.1), (8, b0 + 2, f1, y.2.2.1), (7, b0 + 8, y.2.2.2.2.2, y.2.2.2.1), (0, N + 1, fZ, y.2.2.2.2.1)] (oU [(0, N + 1, fZ, z0), (1, N, (fR (some (b0 + 2)) (some (N + 1)) none), z0)] Ω)) (1, N) = some ((fR (some (b0 + 2)) (some (N + 1)) none), z0) := by simp [oU, xk]
  have g7 : (oU [(11, b0, f0, y.2.1), (8, b0 + 2, f1, y.2.2.1), (7, b0 + 8, y.2.2.2.2.2, y.2.2.2.1), (0, N + 1, fZ, y.2.2.2.2.1)] (oU [(0, N + 1, fZ, z0), (1, N, (fR (some (b0 + 2)) (some (N + 1)) none), z0)] Ω)) (11, b0) = some (f0, y.2.1) := by simp [oU, xk]
  have g8 : (oU [(11, b0, f0, y.2.1), (8, b0 + 2, f1, y.2.2.1), (7, b0 + 8, y.2.2.2.2.2, y.2.2.2.1), (0, N + 1, fZ, y.2.2.2.2.1)] (oU [(0, N + 1, fZ, z0), (1, N, (fR (some (b0 + 2)) (some (N + 1)) none), z0)] Ω)) (8, b0 + 2) = some (f1, y.2.2.1) := by simp [oU, xk]
  have g9 : (oU [(11, b0, f0, y.2.1), (8, b0 + 2, f1, y.2.2.1), (7, b0 + 8, y.2.2.2.2.2, y.2.2.2.1), (0, N + 1, fZ, y.2.2.2.2.1)] (oU [(0, N + 1, fZ, z0), (1, N, (fR (some (b0 + 2)) (some (N + 1)) none), z0)] Ω)) (7, b0 + 8) = some (y.2.2.2.2.2, y.2.2.2.1) := by simp [oU, xk]
  have g10 : (oU [(11, b0, f0, y.2.1), (8, b0 + 2, f1, y.2.2.1), (7, b0 + 8, y.2.2.2.2.2, y.2.2.2.1), (0, N + 1, fZ, y.2.2.2.2.1)] (oU [(0, N + 1, fZ, z0), (1, N, (fR (some (b0 + 2)) (some (N + 1)) none), z0)] Ω)) (0, N + 1) = some (fZ, y.2.2.2.2.1) := by simp [oU, xk]
  have e9 : oU [(11, b0, f0, y.2.1), (8, b0 + 2, f1, y.2.2.1), (7, b0 + 8, y.2.2.2.2.2, y.2.2.2.1), (0, N + 1, fZ, y.2.2.2.2.1)] (oU [(0, N + 1, fZ, z0), (1, N, (fR (some (b0 + 2)) (some (N + 1)) none), z0)] Ω) = oU [(11, b0, f0, y.2.1), (8, b0 + 2, f1, y.2.2.1), (7, b0 + 8, y.2.2.2.2.2, y.2.2.2.1), (0, N + 1, fZ, y.2.2.2.2.1), (1, N, (fR (some (b0 + 2)) (some (N + 1)) none), z0)] Ω := by
    funext k
    simp only [oU, xk]
    try (by_cases k0 : k = (11, b0) <;> by_cases k1 : k = (8, b0 + 2) <;> by_cases k2 : k = (7, b0 + 8) <;> by_cases k3 : k = (0, N + 1) <;> by_cases k4 : k = (1, N) <;> simp_all)
  rw [e9] at O4
  refine ⟨H4, ?_, O4, z4.trans z2⟩
  refine ev_meth (by decide +kernel) (fun _ => Nat.le_of_ble_eq_true rfl) ?_
  rw [hN]
  refine w1 _ _ ?_
  refine ev_new (M := MX11_book) (pc := 21) nw_X11_148 dX11_book_21 ?_
  rw [hN]
  refine w2 _ _ ?_
  refine ev_callI (M := MX11_book) (pc := 29) (As := [.ref (b0 + 2)]) (st := [.ref N]) ci_X11_150 (by decide) dX11_book_29 rfl (Nat.le_of_ble_eq_true rfl) (ckReader_at (h := H) hN (b0 + 2)) rfl ?_
  rw [hH2]
  exact w4
def pX11_logT (s0 s1 s2 s3 : RS) (b0 b2 N : Nat) (f1 : Nat → Option Nat) (a0 : Int32) : Option (Int32 × RS × RS × RS × RS × (Nat → Option Nat)) :=
  (pX11_logh s0 s3 a0).bind fun q => (pX11_logm s0 s1 s2 s3 q).bind fun u => (pX11_logt s0 s1 s2 s3 z0 z0 b0 b2 N (N + 1) f1 u).bind fun y => some y
theorem pX11_logT_ok {l : Launch} {H : aH} {Ω : oT} {N b0 b2 : Nat} {f0 f1 f2 f3 : Nat → Option Nat} {s0 s1 s2 s3 : RS} (hN : H.2.1 = N) (hO : wO H Ω N) (h0 : Ω (11, b0) = some (f0, s0)) (h1 : Ω (7, b0 + 8) = some (f1, s1)) (h2 : Ω (0, b2) = some (f2, s2)) (h3 : Ω (8, b0 + 2) = some (f3, s3)) (hq1 : f1 0 = some b2) (a0 : Int32) : ∀ x, pX11_logT s0 s1 s2 s3 b0 b2 N f1 a0 = some x → ∃ H', aMet l 8 yX11_log cX11_log 3 (some .int) [.ref b0, .int a0] H (some (.int x.1)) H' ∧ wO H' (oU [(11, b0, f0, x.2.1), (7, b0 + 8, x.2.2.2.2.2, s1), (8, b0 + 2, f3, x.2.2.1), (4, N, (fR (some (b0 + 2)) (some b2) (some (N + 1))), x.2.2.2.1), (3, N + 1, fZ, x.2.2.2.2.1)] Ω) (N + 9) ∧ H'.2 = (N + 9, H.2.2 + 376) := by
  intro x hx
  obtain ⟨q, hqh, hx⟩ := Option.bind_eq_some_iff.mp hx
  obtain ⟨u, hu, hx⟩ := Option.bind_eq_some_iff.mp hx
  obtain ⟨y, hy, hx⟩ := Option.bind_eq_some_iff.mp hx
  have hxy := Option.some.inj hx
  subst hxy
  have m1 : oM Ω [(11, b0, f0, s0), (8, b0 + 2, f3, s3)] := ⟨h0, h3, trivial⟩
  have e1 := wO_lay hO m1
  have w1 := pX11_logh_w (l := l) (n0 := N) (S0 := H.2.2) (h := H) (b0 := b0) (f0 := f0) (f1 := f3) (wO_ok hO m1 (by simp)) s0 s3 a0 q hqh
  rw [e1] at w1
  try dsimp only at w1
  have O1 := wO_nH (cs := [.inr (4, [.null, .null, .null, .null, .int 0])]) (k := 5) hO
  have m2 : oM Ω [(11, b0, f0, s0), (7, b0 + 8, f1, s1), (0, b2, f2, s2), (8, b0 + 2, f3, s3)] := ⟨h0, h1, h2, h3, trivial⟩
  have e2 := wO_lay O1 m2
  have w2 := pX11_logm_w (l := l) (n0 := N) (S0 := H.2.2) (h := (nH H [.inr (4, [.null, .null, .null, .null, .int 0])] 5)) (b0 := b0) (b2 := b2) (f0 := f0) (f1 := f1) (f2 := f2) (f3 := f3) (r_new := N) (wO_ok O1 m2 (by simp)) hq1 s0 s1 s2 s3 q u hu
  rw [e2] at w2
  try dsimp only at w2
  have O2 := wO_LogReader (r := b0 + 2) (t := b2) hN hO
  generalize hH2 : nH H (kLogReader N (b0 + 2) b2) 376 = H2 at O2
  have z2 : H2.2 = (N + 9, H.2.2 + 376) := by rw [← hH2]; show (H.2.1 + List.length _, _) = _; rw [hN]; rfl
  have g1 : (oU [(4, N, (fR (some (b0 + 2)) (some b2) (some (N + 1))), z0), (3, N + 1, fZ, z0)] Ω) (11, b0) = some (f0, s0) := by simp [oU, xk, h0]
  have g2 : (oU [(4, N, (fR (some (b0 + 2)) (some b2) (some (N + 1))), z0), (3, N + 1, fZ, z0)] Ω) (7, b0 + 8) = some (f1, s1) := by simp [oU, xk, h1]
  have g3 : (oU [(4, N, (fR (some (b0 + 2)) (some b2) (some (N + 1))), z0), (3, N + 1, fZ, z0)] Ω) (0, b2) = some (f2, s2) := by simp [oU, xk, h2]
  have g4 : (oU [(4, N, (fR (some (b0 + 2)) (some b2) (some (N + 1))), z0), (3, N + 1, fZ, z0)] Ω) (8, b0 + 2) = some (f3, s3) := by simp [oU, xk, h3]
  have g5 : (oU [(4, N, (fR (some (b0 + 2)) (some b2) (some (N + 1))), z0), (3, N + 1, fZ, z0)] Ω) (4, N) = some ((fR (some (b0 + 2)) (some b2) (some (N + 1))), z0) := by simp [oU, xk]
  have g6 : (oU [(4, N, (fR (some (b0 + 2)) (some b2) (some (N + 1))), z0), (3, N + 1, fZ, z0)] Ω) (3, N + 1) = some (fZ, z0) := by simp [oU, xk]
  have m4 : oM (oU [(4, N, (fR (some (b0 + 2)) (some b2) (some (N + 1))), z0), (3, N + 1, fZ, z0)] Ω) [(11, b0, f0, s0), (7, b0 + 8, f1, s1), (0, b2, f2, s2), (8, b0 + 2, f3, s3), (4, N, (fR (some (b0 + 2)) (some b2) (some (N + 1))), z0), (3, N + 1, fZ, z0)] := ⟨g1, g2, g3, g4, g5, g6, trivial⟩
  have e4 := wO_lay O2 m4
  have w4 := pX11_logt_w (l := l) (n0 := N) (S0 := H.2.2) (h := H2) (b0 := b0) (b2 := b2) (b4 := N) (b5 := N + 1) (f0 := f0) (f1 := f1) (f2 := f2) (f3 := f3) (f4 := (fR (some (b0 + 2)) (some b2) (some (N + 1)))) (f5 := fZ) (wO_ok O2 m4 (by simp)) hq1 rfl rfl rfl s0 s1 s2 s3 z0 z0 u y hy _ _ ⟨rfl, rfl⟩
  rw [e4] at w4
  try dsimp only at w4
  have O4 := wO_up O2 (L := [(11, b0, f0, y.2.1), (7, b0 + 8, y.2.2.2.2.2, s1), (0, b2, f2, s2), (8, b0 + 2, f3, y.2.2.1), (4, N, (fR (some (b0 + 2)) (some b2) (some (N + 1))), y.2.2.2.1), (3, N + 1, fZ, y.2.2.2.2.1)]) (oS_of m4 rfl)
  have u4 : oU [(11, b0, f0, y.2.1), (7, b0 + 8, y.2.2.2.2.2, s1), (0, b2, f2, s2), (8, b0 + 2, f3, y.2.2.1), (4, N, (fR (some (b0 + 2)) (some b2) (some (N + 1))), y.2.2.2.1), (3, N + 1, fZ, y.2.2.2.2.1)] (oU [(4, N, (fR (some (b0 + 2)) (some b2) (some (N + 1))), z0), (3, N + 1, fZ, z0)] Ω) = oU [(11, b0, f0, y.2.1), (7, b0 + 8, y.2.2.2.2.2, s1), (8, b0 + 2, f3, y.2.2.1), (4, N, (fR (some (b0 + 2)) (some b2) (some (N + 1))), y.2.2.2.1), (3, N + 1, fZ, y.2.2.2.2.1)] (oU [(4, N, (fR (some (b0 + 2)) (some b2) (some (N + 1))), z0), (3, N + 1, fZ, z0)] Ω) := (oU_k (oU_k (oU_s (oU_k (oU_k (oU_k rfl))) (by simp [oU, xk, h2]))))
  rw [u4] at O4
  generalize hH4 : xw [(11, b0, f0, y.2.1), (7, b0 + 8, y.2.2.2.2.2, s1), (0, b2, f2, s2), (8, b0 + 2, f3, y.2.2.1), (4, N, (fR (some (b0 + 2)) (some b2) (some (N + 1))), y.2.2.2.1), (3, N + 1, fZ, y.2.2.2.2.1)] H2 = H4 at O4 w4
  have z4 : H4.2 = H2.2 := by rw [← hH4]; rfl
  have g7 : (oU [(11, b0, f0, y.2.1), (7, b0 + 8, y.2.2.2.2.2, s1), (8, b0 + 2, f3, y.2.2.1), (4, N, (fR (some (b0 + 2)) (some b2) (some (N + 1))), y.2.2.2.1), (3, N + 1, fZ, y.2.2.2.2.1)] (oU [(4, N, (fR (some (b0 + 2)) (some b2) (some (N + 1))), z0), (3, N + 1, fZ, z0)] Ω)) (0, b2) = some (f2, s2) := by simp [oU, xk, h2]
  have g8 : (oU [(11, b0, f0, y.2.1), (7, b0 + 8, y.2.2.2.2.2, s1), (8, b0 + 2, f3, y.2.2.1), (4, N, (fR (some (b0 + 2)) (some b2) (some (N + 1))), y.2.2.2.1), (3, N + 1, fZ, y.2.2.2.2.1)] (oU [(4, N, (fR (some (b0 + 2)) (some b2) (some (N + 1))), z0), (3, N + 1, fZ, z0)] Ω)) (11, b0) = some (f0, y.2.1) := by simp [oU, xk]
  have g9 : (oU [(11, b0, f0, y.2.1), (7, b0 + 8, y.2.2.2.2.2, s1), (8, b0 + 2, f3, y.2.2.1), (4, N, (fR (some (b0 + 2)) (some b2) (some (N + 1))), y.2.2.2.1), (3, N + 1, fZ, y.2.2.2.2.1)] (oU [(4, N, (fR (some (b0 + 2)) (some b2) (some (N + 1))), z0), (3, N + 1, fZ, z0)] Ω)) (7, b0 + 8) = some (y.2.2.2.2.2, s1) := by simp [oU, xk]
  have g10 : (oU [(11, b0, f0, y.2.1), (7, b0 + 8, y.2.2.2.2.2, s1), (8, b0 + 2, f3, y.2.2.1), (4, N, (fR (some (b0 + 2)) (some b2) (some (N + 1))), y.2.2.2.1), (3, N + 1, fZ, y.2.2.2.2.1)] (oU [(4, N, (fR (some (b0 + 2)) (some b2) (some (N + 1))), z0), (3, N + 1, fZ, z0)] Ω)) (8, b0 + 2) = some (f3, y.2.2.1) := by simp [oU, xk]
  have g11 : (oU [(11, b0, f0, y.2.1), (7, b0 + 8, y.2.2.2.2.2, s1), (8, b0 + 2, f3, y.2.2.1), (4, N, (fR (some (b0 + 2)) (some b2) (some (N + 1))), y.2.2.2.1), (3, N + 1, fZ, y.2.2.2.2.1)] (oU [(4, N, (fR (some (b0 + 2)) (some b2) (some (N + 1))), z0), (3, N + 1, fZ, z0)] Ω)) (4, N) = some ((fR (some (b0 + 2)) (some b2) (some (N + 1))), y.2.2.2.1) := by simp [oU, xk]
  have g12 : (oU [(11, b0, f0, y.2.1), (7, b0 + 8, y.2.2.2.2.2, s1), (8, b0 + 2, f3, y.2.2.1), (4, N, (fR (some (b0 + 2)) (some b2) (some (N + 1))), y.2.2.2.1), (3, N + 1, fZ, y.2.2.2.2.1)] (oU [(4, N, (fR (some (b0 + 2)) (some b2) (some (N + 1))), z0), (3, N + 1, fZ, z0)] Ω)) (3, N + 1) = some (fZ, y.2.2.2.2.1) := by simp [oU, xk]
  have e9 : oU [(11, b0, f0, y.2.1), (7, b0 + 8, y.2.2.2.2.2, s1), (8, b0 + 2, f3, y.2.2.1), (4, N, (fR (some (b0 + 2)) (some b2) (some (N + 1))), y.2.2.2.1), (3, N + 1, fZ, y.2.2.2.2.1)] (oU [(4, N, (fR (some (b0 + 2)) (some b2) (some (N + 1))), z0), (3, N + 1, fZ, z0)] Ω) = oU [(11, b0, f0, y.2.1), (7, b0 + 8, y.2.2.2.2.2, s1), (8, b0 + 2, f3, y.2.2.1), (4, N, (fR (some (b0 + 2)) (some b2) (some (N + 1))), y.2.2.2.1), (3, N + 1, fZ, y.2.2.2.2.1)] Ω := by
    funext k
    simp only [oU, xk]
    try (by_cases k0 : k = (11, b0) <;> by_cases k1 : k = (7, b0 + 8) <;> by_cases k2 : k = (8, b0 + 2) <;> by_cases k3 : k = (4, N) <;> by_cases k4 : k = (3, N + 1) <;> simp_all)
  rw [e9] at O4
  refine ⟨H4, ?_, O4, z4.trans z2⟩
  refine ev_meth (by decide +kernel) (fun _ => Nat.le_of_ble_eq_true rfl) ?_
  rw [hN]
  refine w1 _ _ ?_
  refine ev_new (M := MX11_log) (pc := 28) nw_X11_172 dX11_log_28 ?_
  rw [hN]
  refine w2 _ _ ?_
  refine ev_callI (M := MX11_log) (pc := 43) (As := [.ref (b0 + 2), .ref b2]) (st := [.ref N]) ci_X11_178 (by decide) dX11_log_43 rfl (Nat.le_of_ble_eq_true rfl) (ckLogReader_at (h := H) hN (b0 + 2) b2) rfl ?_
  rw [hH2]
  exact w4
def pX11_leastOutT (s0 s1 s2 : RS) (a0 : Int32) : Option (Int32 × RS × RS) :=
  (pX11_leastOuth s0 s1 s2 a0).bind fun q => (pX11_leastOutm s0 s1 s2 q).bind fun u => (pX11_leastOutt s0 s1 s2 (zW u)).bind fun y => some y
theorem pX11_leastOutT_ok {l : Launch} {H : aH} {Ω : oT} {N b0 b2 : Nat} {f0 f1 f2 : Nat → Option Nat} {s0 s1 s2 : RS} (hN : H.2.1 = N) (hO : wO H Ω N) (h0 : Ω (11, b0) = some (f0, s0)) (h1 : Ω (7, b0 + 8) = some (f1, s1)) (h2 : Ω (0, b2) = some (f2, s2)) (hq1 : f1 0 = some b2) (a0 : Int32) : ∀ x, pX11_leastOutT s0 s1 s2 a0 = some x → ∃ H', aMet l 64 yX11_leastOut cX11_leastOut 3 (some .int) [.ref b0, .int a0] H (some (.int x.1)) H' ∧ wO H' (oU [(11, b0, f0, x.2.1), (6, N, (fR (some b2) none none), x.2.2)] Ω) (N + 1) ∧ H'.2 = (N + 1, H.2.2 + 3) := by
  intro x hx
  obtain ⟨q, hqh, hx⟩ := Option.bind_eq_some_iff.mp hx
  obtain ⟨u, hu, hx⟩ := Option.bind_eq_some_iff.mp hx
  obtain ⟨y, hy, hx⟩ := Option.bind_eq_some_iff.mp hx
  have hxy := Option.some.inj hx
  subst hxy
  have m1 : oM Ω [(11, b0, f0, s0), (7, b0 + 8, f1, s1), (0, b2, f2, s2)] := ⟨h0, h1, h2, trivial⟩
  have e1 := wO_lay hO m1
  have w1 := pX11_leastOuth_w (l := l) (n0 := N) (S0 := H.2.2) (h := H) (b0 := b0) (b2 := b2) (f0 := f0) (f1 := f1) (f2 := f2) (wO_ok hO m1 (by simp)) hq1 s0 s1 s2 a0 q hqh
  rw [e1] at w1
  try dsimp only at w1
  have O1 := wO_nH (cs := [.inr (6, [.null, .int 0, .int 0])]) (k := 3) hO
  have m2 : oM Ω [(11, b0, f0, s0), (7, b0 + 8, f1, s1), (0, b2, f2, s2)] := ⟨h0, h1, h2, trivial⟩
  have e2 := wO_lay O1 m2
  have w2 := pX11_leastOutm_w (l := l) (n0 := N) (S0 := H.2.2) (h := (nH H [.inr (6, [.null, .int 0, .int 0])] 3)) (b0 := b0) (b2 := b2) (f0 := f0) (f1 := f1) (f2 := f2) (r_new := N) (wO_ok O1 m2 (by simp)) hq1 s0 s1 s2 q u hu
  rw [e2] at w2
  try dsimp only at w2
  have O2 := wO_Search (r := b2) (a := u) hN hO
  generalize hH2 : nH H (kSearch N b2 u) 3 = H2 at O2
  have z2 : H2.2 = (N + 1, H.2.2 + 3) := by rw [← hH2]; show (H.2.1 + List.length _, _) = _; rw [hN]; rfl
  have g1 : (oU [(6, N, (fR (some b2) none none), zW u)] Ω) (11, b0) = some (f0, s0) := by simp [oU, xk, h0]
  have g2 : (oU [(6, N, (fR (some b2) none none), zW u)] Ω) (7, b0 + 8) = some (f1, s1) := by simp [oU, xk, h1]
  have g3 : (oU [(6, N, (fR (some b2) none none), zW u)] Ω) (0, b2) = some (f2, s2) := by simp [oU, xk, h2]
  have g4 : (oU [(6, N, (fR (some b2) none none), zW u)] Ω) (6, N) = some ((fR (some b2) none none), zW u) := by simp [oU, xk]
  have m4 : oM (oU [(6, N, (fR (some b2) none none), zW u)] Ω) [(11, b0, f0, s0), (7, b0 + 8, f1, s1), (0, b2, f2, s2), (6, N, (fR (some b2) none none), zW u)] := ⟨g1, g2, g3, g4, trivial⟩
  have e4 := wO_lay O2 m4
  have w4 := pX11_leastOutt_w (l := l) (n0 := N) (S0 := H.2.2) (h := H2) (b0 := b0) (b2 := b2) (b3 := N) (f0 := f0) (f1 := f1) (f2 := f2) (f3 := (fR (some b2) none none)) (wO_ok O2 m4 (by simp)) hq1 rfl s0 s1 s2 (zW u) y hy _ _ ⟨rfl, rfl⟩
  rw [e4] at w4
  try dsimp only at w4
  have O4 := wO_up O2 (L := [(11, b0, f0, y.2.1), (7, b0 + 8, f1, s1), (0, b2, f2, s2), (6, N, (fR (some b2) none none), y.2.2)]) (oS_of m4 rfl)
  have u4 : oU [(11, b0, f0, y.2.1), (7, b0 + 8, f1, s1), (0, b2, f2, s2), (6, N, (fR (some b2) none none), y.2.2)] (oU [(6, N, (fR (some b2) none none), zW u)] Ω) = oU [(11, b0, f0, y.2.1), (6, N, (fR (some b2) none none), y.2.2)] (oU [(6, N, (fR (some b2) none none), zW u)] Ω) := (oU_k (oU_s (oU_s (oU_k rfl) (by simp [oU, xk, h2])) (by simp [oU, xk, h1])))
  rw [u4] at O4
  generalize hH4 : xw [(11, b0, f0, y.2.1), (7, b0 + 8, f1, s1), (0, b2, f2, s2), (6, N, (fR (some b2) none none), y.2.2)] H2 = H4 at O4 w4
  have z4 : H4.2 = H2.2 := by rw [← hH4]; rfl
  have g5 : (oU [(11, b0, f0, y.2.1), (6, N, (fR (some b2) none none), y.2.2)] (oU [(6, N, (fR (some b2) none none), zW u)] Ω)) (7, b0 + 8) = some (f1, s1) := by simp [oU, xk, h1]
  have g6 : (oU [(11, b0, f0, y.2.1), (6, N, (fR (some b2) none none), y.2.2)] (oU [(6, N, (fR (some b2) none none), zW u)] Ω)) (0, b2) = some (f2, s2) := by simp [oU, xk, h2]
  have g7 : (oU [(11, b0, f0, y.2.1), (6, N, (fR (some b2) none none), y.2.2)] (oU [(6, N, (fR (some b2) none none), zW u)] Ω)) (11, b0) = some (f0, y.2.1) := by simp [oU, xk]
  have g8 : (oU [(11, b0, f0, y.2.1), (6, N, (fR (some b2) none none), y.2.2)] (oU [(6, N, (fR (some b2) none none), zW u)] Ω)) (6, N) = some ((fR (some b2) none none), y.2.2) := by simp [oU, xk]
  have e9 : oU [(11, b0, f0, y.2.1), (6, N, (fR (some b2) none none), y.2.2)] (oU [(6, N, (fR (some b2) none none), zW u)] Ω) = oU [(11, b0, f0, y.2.1), (6, N, (fR (some b2) none none), y.2.2)] Ω := by
    funext k
    simp only [oU, xk]
    try (by_cases k0 : k = (11, b0) <;> by_cases k1 : k = (6, N) <;> simp_all)
  rw [e9] at O4
  refine ⟨H4, ?_, O4, z4.trans z2⟩
  refine ev_meth (by decide +kernel) (fun _ => Nat.le_of_ble_eq_true rfl) ?_
  rw [hN]
  refine w1 _ _ ?_
  refine ev_new (M := MX11_leastOut) (pc := 17) nw_X11_311 dX11_leastOut_17 ?_
  rw [hN]
  refine w2 _ _ ?_
  refine ev_callI (M := MX11_leastOut) (pc := 29) (As := [.ref b2, .int u]) (st := [.ref N, .ref b0]) ci_X11_313 (by decide) dX11_leastOut_29 rfl (Nat.le_of_ble_eq_true rfl) (ckSearch_at (h := H) hN b2 u) rfl ?_
  rw [hH2]
  exact w4
def pX11_mostQuietT (s0 s1 s2 : RS) : Option (Int32 × RS × RS) :=
  (pX11_mostQuietm s0 s1 s2).bind fun u => (pX11_mostQuiett s0 s1 s2 (zW u)).bind fun y => some y
theorem pX11_mostQuietT_ok {l : Launch} {H : aH} {Ω : oT} {N b0 b2 : Nat} {f0 f1 f2 : Nat → Option Nat} {s0 s1 s2 : RS} (hN : H.2.1 = N) (hO : wO H Ω N) (h0 : Ω (11, b0) = some (f0, s0)) (h1 : Ω (7, b0 + 8) = some (f1, s1)) (h2 : Ω (0, b2) = some (f2, s2)) (hq1 : f1 0 = some b2) : ∀ x, pX11_mostQuietT s0 s1 s2 = some x → ∃ H', aMet l 64 yX11_mostQuiet cX11_mostQuiet 2 (some .int) [.ref b0] H (some (.int x.1)) H' ∧ wO H' (oU [(11, b0, f0, x.2.1), (6, N, (fR (some b2) none none), x.2.2)] Ω) (N + 1) ∧ H'.2 = (N + 1, H.2.2 + 3) := by
  intro x hx
  obtain ⟨u, hu, hx⟩ := Option.bind_eq_some_iff.mp hx
  obtain ⟨y, hy, hx⟩ := Option.bind_eq_some_iff.mp hx
  have hxy := Option.some.inj hx
  subst hxy
  have O1 := wO_nH (cs := [.inr (6, [.null, .int 0, .int 0])]) (k := 3) hO
  have m2 : oM Ω [(11, b0, f0, s0), (7, b0 + 8, f1, s1), (0, b2, f2, s2)] := ⟨h0, h1, h2, trivial⟩
  have e2 := wO_lay O1 m2
  have w2 := pX11_mostQuietm_w (l := l) (n0 := N) (S0 := H.2.2) (h := (nH H [.inr (6, [.null, .int 0, .int 0])] 3)) (b0 := b0) (b2 := b2) (f0 := f0) (f1 := f1) (f2 := f2) (r_new := N) (wO_ok O1 m2 (by simp)) hq1 s0 s1 s2 u hu
  rw [e2] at w2
  try dsimp only at w2
  have O2 := wO_Search (r := b2) (a := u) hN hO
  generalize hH2 : nH H (kSearch N b2 u) 3 = H2 at O2
  have z2 : H2.2 = (N + 1, H.2.2 + 3) := by rw [← hH2]; show (H.2.1 + List.length _, _) = _; rw [hN]; rfl
  have g1 : (oU [(6, N, (fR (some b2) none none), zW u)] Ω) (11, b0) = some (f0, s0) := by simp [oU, xk, h0]
  have g2 : (oU [(6, N, (fR (some b2) none none), zW u)] Ω) (7, b0 + 8) = some (f1, s1) := by simp [oU, xk, h1]
  have g3 : (oU [(6, N, (fR (some b2) none none), zW u)] Ω) (0, b2) = some (f2, s2) := by simp [oU, xk, h2]
  have g4 : (oU [(6, N, (fR (some b2) none none), zW u)] Ω) (6, N) = some ((fR (some b2) none none), zW u) := by simp [oU, xk]
  have m4 : oM (oU [(6, N, (fR (some b2) none none), zW u)] Ω) [(11, b0, f0, s0), (7, b0 + 8, f1, s1), (0, b2, f2, s2), (6, N, (fR (some b2) none none), zW u)] := ⟨g1, g2, g3, g4, trivial⟩
  have e4 := wO_lay O2 m4
  have w4 := pX11_mostQuiett_w (l := l) (n0 := N) (S0 := H.2.2) (h := H2) (b0 := b0) (b2 := b2) (b3 := N) (f0 := f0) (f1 := f1) (f2 := f2) (f3 := (fR (some b2) none none)) (wO_ok O2 m4 (by simp)) hq1 rfl s0 s1 s2 (zW u) y hy _ _ ⟨rfl, rfl⟩
  rw [e4] at w4
  try dsimp only at w4
  have O4 := wO_up O2 (L := [(11, b0, f0, y.2.1), (7, b0 + 8, f1, s1), (0, b2, f2, s2), (6, N, (fR (some b2) none none), y.2.2)]) (oS_of m4 rfl)
  have u4 : oU [(11, b0, f0, y.2.1), (7, b0 + 8, f1, s1), (0, b2, f2, s2), (6, N, (fR (some b2) none none), y.2.2)] (oU [(6, N, (fR (some b2) none none), zW u)] Ω) = oU [(11, b0, f0, y.2.1), (6, N, (fR (some b2) none none), y.2.2)] (oU [(6, N, (fR (some b2) none none), zW u)] Ω) := (oU_k (oU_s (oU_s (oU_k rfl) (by simp [oU, xk, h2])) (by simp [oU, xk, h1])))
  rw [u4] at O4
  generalize hH4 : xw [(11, b0, f0, y.2.1), (7, b0 + 8, f1, s1), (0, b2, f2, s2), (6, N, (fR (some b2) none none), y.2.2)] H2 = H4 at O4 w4
  have z4 : H4.2 = H2.2 := by rw [← hH4]; rfl
  have g5 : (oU [(11, b0, f0, y.2.1), (6, N, (fR (some b2) none none), y.2.2)] (oU [(6, N, (fR (some b2) none none), zW u)] Ω)) (7, b0 + 8) = some (f1, s1) := by simp [oU, xk, h1]
  have g6 : (oU [(11, b0, f0, y.2.1), (6, N, (fR (some b2) none none), y.2.2)] (oU [(6, N, (fR (some b2) none none), zW u)] Ω)) (0, b2) = some (f2, s2) := by simp [oU, xk, h2]
  have g7 : (oU [(11, b0, f0, y.2.1), (6, N, (fR (some b2) none none), y.2.2)] (oU [(6, N, (fR (some b2) none none), zW u)] Ω)) (11, b0) = some (f0, y.2.1) := by simp [oU, xk]
  have g8 : (oU [(11, b0, f0, y.2.1), (6, N, (fR (some b2) none none), y.2.2)] (oU [(6, N, (fR (some b2) none none), zW u)] Ω)) (6, N) = some ((fR (some b2) none none), y.2.2) := by simp [oU, xk]
  have e9 : oU [(11, b0, f0, y.2.1), (6, N, (fR (some b2) none none), y.2.2)] (oU [(6, N, (fR (some b2) none none), zW u)] Ω) = oU [(11, b0, f0, y.2.1), (6, N, (fR (some b2) none none), y.2.2)] Ω := by
    funext k
    simp only [oU, xk]
    try (by_cases k0 : k = (11, b0) <;> by_cases k1 : k = (6, N) <;> simp_all)
  rw [e9] at O4
  refine ⟨H4, ?_, O4, z4.trans z2⟩
  refine ev_meth (by decide +kernel) (fun _ => Nat.le_of_ble_eq_true rfl) ?_
  rw [hN]
  refine ev_new (M := MX11_mostQuiet) (pc := 0) nw_X11_311 dX11_mostQuiet_0 ?_
  rw [hN]
  refine w2 _ _ ?_
  refine ev_callI (M := MX11_mostQuiet) (pc := 21) (As := [.ref b2, .int u]) (st := [.ref N]) ci_X11_313 (by decide) dX11_mostQuiet_21 rfl (Nat.le_of_ble_eq_true rfl) (ckSearch_at (h := H) hN b2 u) rfl ?_
  rw [hH2]
  exact w4
def pX11_markT (s0 s1 s2 s3 s4 : RS) : Option (Int32 × RS × RS) :=
  (pX11_markh s0).bind fun q => g_in q 3 (pX11_markt s0 s1 s2 s3 s4)
theorem pX11_markT_ok {l : Launch} {H : aH} {Ω : oT} {N b0 b2 b3 b4 : Nat} {f0 f1 f2 f3 f4 : Nat → Option Nat} {s0 s1 s2 s3 s4 : RS} (hN : H.2.1 = N) (hO : wO H Ω N) (h0 : Ω (11, b0) = some (f0, s0)) (h1 : Ω (7, b0 + 8) = some (f1, s1)) (h2 : Ω (0, b2) = some (f2, s2)) (h3 : Ω (3, b3) = some (f3, s3)) (h4 : Ω (7, b4) = some (f4, s4)) (hq1 : f1 0 = some b2) (hq2 : f1 1 = some b3) (hne : b0 + 8 ≠ b4) (hK : ∀ q, pX11_markh s0 = some q → vp_in q 3 → b0 + 87 + 17 * q.toNatClampNeg = b4) : ∀ x, pX11_markT s0 s1 s2 s3 s4 = some x → ∃ H', aMet l 4 yX11_mark cX11_mark 1 (some .int) [.ref b0] H (some (.int x.1)) H' ∧ wO H' (oU [(11, b0, f0, x.2.1), (7, b4, (va_up (va_up f4 0 (some b2)) 1 (some b3)), x.2.2)] Ω) N ∧ H'.2 = H.2 := by
  intro x hx
  obtain ⟨q, hqh, hx⟩ := Option.bind_eq_some_iff.mp hx
  obtain ⟨hin, hx⟩ := g_in_some hx
  have m1 : oM Ω [(11, b0, f0, s0)] := ⟨h0, trivial⟩
  have e1 := wO_lay hO m1
  have w1 := pX11_markh_w (l := l) (n0 := N) (S0 := H.2.2) (h := H) (b0 := b0) (f0 := f0) (wO_ok hO m1 (by simp [hne, Ne.symm hne])) s0 q hqh
  rw [e1] at w1
  try dsimp only at w1
  have z1 : H.2 = H.2 := rfl
  have m2 : oM Ω [(11, b0, f0, s0), (7, b0 + 8, f1, s1), (0, b2, f2, s2), (3, b3, f3, s3), (7, b4, f4, s4)] := ⟨h0, h1, h2, h3, h4, trivial⟩
  have e2 := wO_lay hO m2
  have w2 := pX11_markt_w (l := l) (n0 := N) (S0 := H.2.2) (h := H) (b0 := b0) (b2 := b2) (b3 := b3) (b4 := b4) (f0 := f0) (f1 := f1) (f2 := f2) (f3 := f3) (f4 := f4) (wO_ok hO m2 (by simp [hne, Ne.symm hne])) hq1 hq2 s0 s1 s2 s3 s4 x hx _ _ ⟨rfl, rfl⟩
  rw [e2] at w2
  try dsimp only at w2
  have O2 := wO_up hO (L := [(11, b0, f0, x.2.1), (7, b0 + 8, f1, s1), (0, b2, f2, s2), (3, b3, f3, s3), (7, b4, (va_up (va_up f4 0 (some b2)) 1 (some b3)), x.2.2)]) (oS_of m2 rfl)
  have u2 : oU [(11, b0, f0, x.2.1), (7, b0 + 8, f1, s1), (0, b2, f2, s2), (3, b3, f3, s3), (7, b4, (va_up (va_up f4 0 (some b2)) 1 (some b3)), x.2.2)] Ω = oU [(11, b0, f0, x.2.1), (7, b4, (va_up (va_up f4 0 (some b2)) 1 (some b3)), x.2.2)] Ω := (oU_k (oU_s (oU_s (oU_s (oU_k rfl) (by simp [oU, xk, h3, hne, Ne.symm hne])) (by simp [oU, xk, h2, hne, Ne.symm hne])) (by simp [oU, xk, h1, hne, Ne.symm hne])))
  rw [u2] at O2
  generalize hH2 : xw [(11, b0, f0, x.2.1), (7, b0 + 8, f1, s1), (0, b2, f2, s2), (3, b3, f3, s3), (7, b4, (va_up (va_up f4 0 (some b2)) 1 (some b3)), x.2.2)] H = H2 at O2 w2
  have z2 : H2.2 = H.2 := by rw [← hH2]; rfl
  have g1 : (oU [(11, b0, f0, x.2.1), (7, b4, (va_up (va_up f4 0 (some b2)) 1 (some b3)), x.2.2)] Ω) (7, b0 + 8) = some (f1, s1) := by simp [oU, xk, h1, hne, Ne.symm hne]
  have g2 : (oU [(11, b0, f0, x.2.1), (7, b4, (va_up (va_up f4 0 (some b2)) 1 (some b3)), x.2.2)] Ω) (0, b2) = some (f2, s2) := by simp [oU, xk, h2, hne, Ne.symm hne]
  have g3 : (oU [(11, b0, f0, x.2.1), (7, b4, (va_up (va_up f4 0 (some b2)) 1 (some b3)), x.2.2)] Ω) (3, b3) = some (f3, s3) := by simp [oU, xk, h3, hne, Ne.symm hne]
  have g4 : (oU [(11, b0, f0, x.2.1), (7, b4, (va_up (va_up f4 0 (some b2)) 1 (some b3)), x.2.2)] Ω) (11, b0) = some (f0, x.2.1) := by simp [oU, xk, hne, Ne.symm hne]
  have g5 : (oU [(11, b0, f0, x.2.1), (7, b4, (va_up (va_up f4 0 (some b2)) 1 (some b3)), x.2.2)] Ω) (7, b4) = some ((va_up (va_up f4 0 (some b2)) 1 (some b3)), x.2.2) := by simp [oU, xk, hne, Ne.symm hne]
  have e9 : oU [(11, b0, f0, x.2.1), (7, b4, (va_up (va_up f4 0 (some b2)) 1 (some b3)), x.2.2)] Ω = oU [(11, b0, f0, x.2.1), (7, b4, (va_up (va_up f4 0 (some b2)) 1 (some b3)), x.2.2)] Ω := by
    funext k
    simp only [oU, xk]
    try (by_cases k0 : k = (11, b0) <;> by_cases k1 : k = (7, b4) <;> simp_all)
  rw [e9] at O2
  refine ⟨H2, ?_, O2, z2.trans z1⟩
  refine ev_meth (by decide +kernel) (fun _ => Nat.le_of_ble_eq_true rfl) ?_
  rw [hN]
  refine w1 _ _ ?_
  refine ev_marks (M := MX11_mark) (pc := 23) hO h0 hin (hK q hqh hin) dX11_mark_23 ?_
  exact w2
def pX11_markTN (s0 s1 s2 s3 : RS) : Option (Int32 × RS × RS) :=
  (pX11_markh s0).bind fun q => g_in q 3 (pX11_marktN s0 s1 s2 s3)
theorem pX11_markTN_ok {l : Launch} {H : aH} {Ω : oT} {N b0 b2 b3 : Nat} {f0 f1 f2 f3 : Nat → Option Nat} {s0 s1 s2 s3 : RS} (hN : H.2.1 = N) (hO : wO H Ω N) (h0 : Ω (11, b0) = some (f0, s0)) (h1 : Ω (7, b0 + 8) = some (f1, s1)) (h2 : Ω (0, b2) = some (f2, s2)) (h3 : Ω (7, b3) = some (f3, s3)) (hq1 : f1 0 = some b2) (hq2 : f1 1 = none) (hne : b0 + 8 ≠ b3) (hK : ∀ q, pX11_markh s0 = some q → vp_in q 3 → b0 + 87 + 17 * q.toNatClampNeg = b3) : ∀ x, pX11_markTN s0 s1 s2 s3 = some x → ∃ H', aMet l 4 yX11_mark cX11_mark 1 (some .int) [.ref b0] H (some (.int x.1)) H' ∧ wO H' (oU [(11, b0, f0, x.2.1), (7, b3, (va_up (va_up f3 0 (some b2)) 1 none), x.2.2)] Ω) N ∧ H'.2 = H.2 := by
  intro x hx
  obtain ⟨q, hqh, hx⟩ := Option.bind_eq_some_iff.mp hx
  obtain ⟨hin, hx⟩ := g_in_some hx
  have m1 : oM Ω [(11, b0, f0, s0)] := ⟨h0, trivial⟩
  have e1 := wO_lay hO m1
  have w1 := pX11_markh_w (l := l) (n0 := N) (S0 := H.2.2) (h := H) (b0 := b0) (f0 := f0) (wO_ok hO m1 (by simp [hne, Ne.symm hne])) s0 q hqh
  rw [e1] at w1
  try dsimp only at w1
  have z1 : H.2 = H.2 := rfl
  have m2 : oM Ω [(11, b0, f0, s0), (7, b0 + 8, f1, s1), (0, b2, f2, s2), (7, b3, f3, s3)] := ⟨h0, h1, h2, h3, trivial⟩
  have e2 := wO_lay hO m2
  have w2 := pX11_marktN_w (l := l) (n0 := N) (S0 := H.2.2) (h := H) (b0 := b0) (b2 := b2) (b3 := b3) (f0 := f0) (f1 := f1) (f2 := f2) (f3 := f3) (wO_ok hO m2 (by simp [hne, Ne.symm hne])) hq1 hq2 s0 s1 s2 s3 x hx _ _ ⟨rfl, rfl⟩
  rw [e2] at w2
  try dsimp only at w2
  have O2 := wO_up hO (L := [(11, b0, f0, x.2.1), (7, b0 + 8, f1, s1), (0, b2, f2, s2), (7, b3, (va_up (va_up f3 0 (some b2)) 1 none), x.2.2)]) (oS_of m2 rfl)
  have u2 : oU [(11, b0, f0, x.2.1), (7, b0 + 8, f1, s1), (0, b2, f2, s2), (7, b3, (va_up (va_up f3 0 (some b2)) 1 none), x.2.2)] Ω = oU [(11, b0, f0, x.2.1), (7, b3, (va_up (va_up f3 0 (some b2)) 1 none), x.2.2)] Ω := (oU_k (oU_s (oU_s (oU_k rfl) (by simp [oU, xk, h2, hne, Ne.symm hne])) (by simp [oU, xk, h1, hne, Ne.symm hne])))
  rw [u2] at O2
  generalize hH2 : xw [(11, b0, f0, x.2.1), (7, b0 + 8, f1, s1), (0, b2, f2, s2), (7, b3, (va_up (va_up f3 0 (some b2)) 1 none), x.2.2)] H = H2 at O2 w2
  have z2 : H2.2 = H.2 := by rw [← hH2]; rfl
  have g1 : (oU [(11, b0, f0, x.2.1), (7, b3, (va_up (va_up f3 0 (some b2)) 1 none), x.2.2)] Ω) (7, b0 + 8) = some (f1, s1) := by simp [oU, xk, h1, hne, Ne.symm hne]
  have g2 : (oU [(11, b0, f0, x.2.1), (7, b3, (va_up (va_up f3 0 (some b2)) 1 none), x.2.2)] Ω) (0, b2) = some (f2, s2) := by simp [oU, xk, h2, hne, Ne.symm hne]
  have g3 : (oU [(11, b0, f0, x.2.1), (7, b3, (va_up (va_up f3 0 (some b2)) 1 none), x.2.2)] Ω) (11, b0) = some (f0, x.2.1) := by simp [oU, xk, hne, Ne.symm hne]
  have g4 : (oU [(11, b0, f0, x.2.1), (7, b3, (va_up (va_up f3 0 (some b2)) 1 none), x.2.2)] Ω) (7, b3) = some ((va_up (va_up f3 0 (some b2)) 1 none), x.2.2) := by simp [oU, xk, hne, Ne.symm hne]
  have e9 : oU [(11, b0, f0, x.2.1), (7, b3, (va_up (va_up f3 0 (some b2)) 1 none), x.2.2)] Ω = oU [(11, b0, f0, x.2.1), (7, b3, (va_up (va_up f3 0 (some b2)) 1 none), x.2.2)] Ω := by
    funext k
    simp only [oU, xk]
    try (by_cases k0 : k = (11, b0) <;> by_cases k1 : k = (7, b3) <;> simp_all)
  rw [e9] at O2
  refine ⟨H2, ?_, O2, z2.trans z1⟩
  refine ev_meth (by decide +kernel) (fun _ => Nat.le_of_ble_eq_true rfl) ?_
  rw [hN]
  refine w1 _ _ ?_
  refine ev_marks (M := MX11_mark) (pc := 23) hO h0 hin (hK q hqh hin) dX11_mark_23 ?_
  exact w2
def pX11_backT (s0 s1 s2 s3 s4 : RS) : Option (Int32 × RS × RS) :=
  (pX11_backh s0 s1).bind fun q => g_in q.1 3 (pX11_backt q.2 s1 s2 s3 s4)
theorem pX11_backT_ok {l : Launch} {H : aH} {Ω : oT} {N b0 b2 b3 b4 : Nat} {f0 f1 f2 f3 f4 : Nat → Option Nat} {s0 s1 s2 s3 s4 : RS} (hN : H.2.1 = N) (hO : wO H Ω N) (h0 : Ω (11, b0) = some (f0, s0)) (h1 : Ω (7, b0 + 8) = some (f1, s1)) (h2 : Ω (7, b2) = some (f2, s2)) (h3 : Ω (0, b3) = some (f3, s3)) (h4 : Ω (3, b4) = some (f4, s4)) (hq1 : f2 0 = some b3) (hq2 : f2 1 = some b4) (hne : b0 + 8 ≠ b2) (hK : ∀ q, pX11_backh s0 s1 = some q → vp_in q.1 3 → b0 + 87 + 17 * q.1.toNatClampNeg = b2) : ∀ x, pX11_backT s0 s1 s2 s3 s4 = some x → ∃ H', aMet l 4 yX11_back cX11_back 1 (some .int) [.ref b0] H (some (.int x.1)) H' ∧ wO H' (oU [(11, b0, f0, x.2.1), (7, b0 + 8, (va_up (va_up f1 0 (some b3)) 1 (some b4)), x.2.2)] Ω) N ∧ H'.2 = H.2 := by
  intro x hx
  obtain ⟨q, hqh, hx⟩ := Option.bind_eq_some_iff.mp hx
  obtain ⟨hin, hx⟩ := g_in_some hx
  have m1 : oM Ω [(11, b0, f0, s0), (7, b0 + 8, f1, s1)] := ⟨h0, h1, trivial⟩
  have e1 := wO_lay hO m1
  have w1 := pX11_backh_w (l := l) (n0 := N) (S0 := H.2.2) (h := H) (b0 := b0) (f0 := f0) (f1 := f1) (wO_ok hO m1 (by simp [hne, Ne.symm hne])) s0 s1 q hqh
  rw [e1] at w1
  try dsimp only at w1
  have O1 := wO_up hO (L := [(11, b0, f0, q.2), (7, b0 + 8, f1, s1)]) (oS_of m1 rfl)
  have u1 : oU [(11, b0, f0, q.2), (7, b0 + 8, f1, s1)] Ω = oU [(11, b0, f0, q.2)] Ω := (oU_k (oU_s rfl (by simp [oU, xk, h1, hne, Ne.symm hne])))
  rw [u1] at O1
  generalize hH1 : xw [(11, b0, f0, q.2), (7, b0 + 8, f1, s1)] H = H1 at O1 w1
  have z1 : H1.2 = H.2 := by rw [← hH1]; rfl
  have g1 : (oU [(11, b0, f0, q.2)] Ω) (7, b0 + 8) = some (f1, s1) := by simp [oU, xk, h1, hne, Ne.symm hne]
  have g2 : (oU [(11, b0, f0, q.2)] Ω) (7, b2) = some (f2, s2) := by simp [oU, xk, h2, hne, Ne.symm hne]
  have g3 : (oU [(11, b0, f0, q.2)] Ω) (0, b3) = some (f3, s3) := by simp [oU, xk, h3, hne, Ne.symm hne]
  have g4 : (oU [(11, b0, f0, q.2)] Ω) (3, b4) = some (f4, s4) := by simp [oU, xk, h4, hne, Ne.symm hne]
  have g5 : (oU [(11, b0, f0, q.2)] Ω) (11, b0) = some (f0, q.2) := by simp [oU, xk, hne, Ne.symm hne]
  have m2 : oM (oU [(11, b0, f0, q.2)] Ω) [(11, b0, f0, q.2), (7, b0 + 8, f1, s1), (7, b2, f2, s2), (0, b3, f3, s3), (3, b4, f4, s4)] := ⟨g5, g1, g2, g3, g4, trivial⟩
  have e2 := wO_lay O1 m2
  have w2 := pX11_backt_w (l := l) (n0 := N) (S0 := H.2.2) (h := H1) (b0 := b0) (b2 := b2) (b3 := b3) (b4 := b4) (f0 := f0) (f1 := f1) (f2 := f2) (f3 := f3) (f4 := f4) (wO_ok O1 m2 (by simp [hne, Ne.symm hne])) hq1 hq2 q.2 s1 s2 s3 s4 x hx _ _ ⟨rfl, rfl⟩
  rw [e2] at w2
  try dsimp only at w2
  have O2 := wO_up O1 (L := [(11, b0, f0, x.2.1), (7, b0 + 8, (va_up (va_up f1 0 (some b3)) 1 (some b4)), x.2.2), (7, b2, f2, s2), (0, b3, f3, s3), (3, b4, f4, s4)]) (oS_of m2 rfl)
  have u2 : oU [(11, b0, f0, x.2.1), (7, b0 + 8, (va_up (va_up f1 0 (some b3)) 1 (some b4)), x.2.2), (7, b2, f2, s2), (0, b3, f3, s3), (3, b4, f4, s4)] (oU [(11, b0, f0, q.2)] Ω) = oU [(11, b0, f0, x.2.1), (7, b0 + 8, (va_up (va_up f1 0 (some b3)) 1 (some b4)), x.2.2)] (oU [(11, b0, f0, q.2)] Ω) := (oU_k (oU_k (oU_s (oU_s (oU_s rfl (by simp [oU, xk, h4, hne, Ne.symm hne])) (by simp [oU, xk, h3, hne, Ne.symm hne])) (by simp [oU, xk, h2, hne, Ne.symm hne]))))
  rw [u2] at O2
  generalize hH2 : xw [(11, b0, f0, x.2.1), (7, b0 + 8, (va_up (va_up f1 0 (some b3)) 1 (some b4)), x.2.2), (7, b2, f2, s2), (0, b3, f3, s3), (3, b4, f4, s4)] H1 = H2 at O2 w2
  have z2 : H2.2 = H1.2 := by rw [← hH2]; rfl
  have g6 : (oU [(11, b0, f0, x.2.1), (7, b0 + 8, (va_up (va_up f1 0 (some b3)) 1 (some b4)), x.2.2)] (oU [(11, b0, f0, q.2)] Ω)) (7, b2) = some (f2, s2) := by simp [oU, xk, h2, hne, Ne.symm hne]
  have g7 : (oU [(11, b0, f0, x.2.1), (7, b0 + 8, (va_up (va_up f1 0 (some b3)) 1 (some b4)), x.2.2)] (oU [(11, b0, f0, q.2)] Ω)) (0, b3) = some (f3, s3) := by simp [oU, xk, h3, hne, Ne.symm hne]
  have g8 : (oU [(11, b0, f0, x.2.1), (7, b0 + 8, (va_up (va_up f1 0 (some b3)) 1 (some b4)), x.2.2)] (oU [(11, b0, f0, q.2)] Ω)) (3, b4) = some (f4, s4) := by simp [oU, xk, h4, hne, Ne.symm hne]
  have g9 : (oU [(11, b0, f0, x.2.1), (7, b0 + 8, (va_up (va_up f1 0 (some b3)) 1 (some b4)), x.2.2)] (oU [(11, b0, f0, q.2)] Ω)) (11, b0) = some (f0, x.2.1) := by simp [oU, xk, hne, Ne.symm hne]
  have g10 : (oU [(11, b0, f0, x.2.1), (7, b0 + 8, (va_up (va_up f1 0 (some b3)) 1 (some b4)), x.2.2)] (oU [(11, b0, f0, q.2)] Ω)) (7, b0 + 8) = some ((va_up (va_up f1 0 (some b3)) 1 (some b4)), x.2.2) := by simp [oU, xk, hne, Ne.symm hne]
  have e9 : oU [(11, b0, f0, x.2.1), (7, b0 + 8, (va_up (va_up f1 0 (some b3)) 1 (some b4)), x.2.2)] (oU [(11, b0, f0, q.2)] Ω) = oU [(11, b0, f0, x.2.1), (7, b0 + 8, (va_up (va_up f1 0 (some b3)) 1 (some b4)), x.2.2)] Ω := by
    funext k
    simp only [oU, xk]
    try (by_cases k0 : k = (11, b0) <;> by_cases k1 : k = (7, b0 + 8) <;> simp_all)
  rw [e9] at O2
  refine ⟨H2, ?_, O2, z2.trans z1⟩
  refine ev_meth (by decide +kernel) (fun _ => Nat.le_of_ble_eq_true rfl) ?_
  rw [hN]
  refine w1 _ _ ?_
  refine ev_marks (M := MX11_back) (pc := 36) O1 g5 hin (hK q hqh hin) dX11_back_36 ?_
  exact w2
def pX11_backTN (s0 s1 s2 s3 : RS) : Option (Int32 × RS × RS) :=
  (pX11_backh s0 s1).bind fun q => g_in q.1 3 (pX11_backtN q.2 s1 s2 s3)
theorem pX11_backTN_ok {l : Launch} {H : aH} {Ω : oT} {N b0 b2 b3 : Nat} {f0 f1 f2 f3 : Nat → Option Nat} {s0 s1 s2 s3 : RS} (hN : H.2.1 = N) (hO : wO H Ω N) (h0 : Ω (11, b0) = some (f0, s0)) (h1 : Ω (7, b0 + 8) = some (f1, s1)) (h2 : Ω (7, b2) = some (f2, s2)) (h3 : Ω (0, b3) = some (f3, s3)) (hq1 : f2 0 = some b3) (hq2 : f2 1 = none) (hne : b0 + 8 ≠ b2) (hK : ∀ q, pX11_backh s0 s1 = some q → vp_in q.1 3 → b0 + 87 + 17 * q.1.toNatClampNeg = b2) : ∀ x, pX11_backTN s0 s1 s2 s3 = some x → ∃ H', aMet l 4 yX11_back cX11_back 1 (some .int) [.ref b0] H (some (.int x.1)) H' ∧ wO H' (oU [(11, b0, f0, x.2.1), (7, b0 + 8, (va_up (va_up f1 0 (some b3)) 1 none), x.2.2)] Ω) N ∧ H'.2 = H.2 := by
  intro x hx
  obtain ⟨q, hqh, hx⟩ := Option.bind_eq_some_iff.mp hx
  obtain ⟨hin, hx⟩ := g_in_some hx
  have m1 : oM Ω [(11, b0, f0, s0), (7, b0 + 8, f1, s1)] := ⟨h0, h1, trivial⟩
  have e1 := wO_lay hO m1
  have w1 := pX11_backh_w (l := l) (n0 := N) (S0 := H.2.2) (h := H) (b0 := b0) (f0 := f0) (f1 := f1) (wO_ok hO m1 (by simp [hne, Ne.symm hne])) s0 s1 q hqh
  rw [e1] at w1
  try dsimp only at w1
  have O1 := wO_up hO (L := [(11, b0, f0, q.2), (7, b0 + 8, f1, s1)]) (oS_of m1 rfl)
  have u1 : oU [(11, b0, f0, q.2), (7, b0 + 8, f1, s1)] Ω = oU [(11, b0, f0, q.2)] Ω := (oU_k (oU_s rfl (by simp [oU, xk, h1, hne, Ne.symm hne])))
  rw [u1] at O1
  generalize hH1 : xw [(11, b0, f0, q.2), (7, b0 + 8, f1, s1)] H = H1 at O1 w1
  have z1 : H1.2 = H.2 := by rw [← hH1]; rfl
  have g1 : (oU [(11, b0, f0, q.2)] Ω) (7, b0 + 8) = some (f1, s1) := by simp [oU, xk, h1, hne, Ne.symm hne]
  have g2 : (oU [(11, b0, f0, q.2)] Ω) (7, b2) = some (f2, s2) := by simp [oU, xk, h2, hne, Ne.symm hne]
  have g3 : (oU [(11, b0, f0, q.2)] Ω) (0, b3) = some (f3, s3) := by simp [oU, xk, h3, hne, Ne.symm hne]
  have g4 : (oU [(11, b0, f0, q.2)] Ω) (11, b0) = some (f0, q.2) := by simp [oU, xk, hne, Ne.symm hne]
  have m2 : oM (oU [(11, b0, f0, q.2)] Ω) [(11, b0, f0, q.2), (7, b0 + 8, f1, s1), (7, b2, f2, s2), (0, b3, f3, s3)] := ⟨g4, g1, g2, g3, trivial⟩
  have e2 := wO_lay O1 m2
  have w2 := pX11_backtN_w (l := l) (n0 := N) (S0 := H.2.2) (h := H1) (b0 := b0) (b2 := b2) (b3 := b3) (f0 := f0) (f1 := f1) (f2 := f2) (f3 := f3) (wO_ok O1 m2 (by simp [hne, Ne.symm hne])) hq1 hq2 q.2 s1 s2 s3 x hx _ _ ⟨rfl, rfl⟩
  rw [e2] at w2
  try dsimp only at w2
  have O2 := wO_up O1 (L := [(11, b0, f0, x.2.1), (7, b0 + 8, (va_up (va_up f1 0 (some b3)) 1 none), x.2.2), (7, b2, f2, s2), (0, b3, f3, s3)]) (oS_of m2 rfl)
  have u2 : oU [(11, b0, f0, x.2.1), (7, b0 + 8, (va_up (va_up f1 0 (some b3)) 1 none), x.2.2), (7, b2, f2, s2), (0, b3, f3, s3)] (oU [(11, b0, f0, q.2)] Ω) = oU [(11, b0, f0, x.2.1), (7, b0 + 8, (va_up (va_up f1 0 (some b3)) 1 none), x.2.2)] (oU [(11, b0, f0, q.2)] Ω) := (oU_k (oU_k (oU_s (oU_s rfl (by simp [oU, xk, h3, hne, Ne.symm hne])) (by simp [oU, xk, h2, hne, Ne.symm hne]))))
  rw [u2] at O2
  generalize hH2 : xw [(11, b0, f0, x.2.1), (7, b0 + 8, (va_up (va_up f1 0 (some b3)) 1 none), x.2.2), (7, b2, f2, s2), (0, b3, f3, s3)] H1 = H2 at O2 w2
  have z2 : H2.2 = H1.2 := by rw [← hH2]; rfl
  have g5 : (oU [(11, b0, f0, x.2.1), (7, b0 + 8, (va_up (va_up f1 0 (some b3)) 1 none), x.2.2)] (oU [(11, b0, f0, q.2)] Ω)) (7, b2) = some (f2, s2) := by simp [oU, xk, h2, hne, Ne.symm hne]
  have g6 : (oU [(11, b0, f0, x.2.1), (7, b0 + 8, (va_up (va_up f1 0 (some b3)) 1 none), x.2.2)] (oU [(11, b0, f0, q.2)] Ω)) (0, b3) = some (f3, s3) := by simp [oU, xk, h3, hne, Ne.symm hne]
  have g7 : (oU [(11, b0, f0, x.2.1), (7, b0 + 8, (va_up (va_up f1 0 (some b3)) 1 none), x.2.2)] (oU [(11, b0, f0, q.2)] Ω)) (11, b0) = some (f0, x.2.1) := by simp [oU, xk, hne, Ne.symm hne]
  have g8 : (oU [(11, b0, f0, x.2.1), (7, b0 + 8, (va_up (va_up f1 0 (some b3)) 1 none), x.2.2)] (oU [(11, b0, f0, q.2)] Ω)) (7, b0 + 8) = some ((va_up (va_up f1 0 (some b3)) 1 none), x.2.2) := by simp [oU, xk, hne, Ne.symm hne]
  have e9 : oU [(11, b0, f0, x.2.1), (7, b0 + 8, (va_up (va_up f1 0 (some b3)) 1 none), x.2.2)] (oU [(11, b0, f0, q.2)] Ω) = oU [(11, b0, f0, x.2.1), (7, b0 + 8, (va_up (va_up f1 0 (some b3)) 1 none), x.2.2)] Ω := by
    funext k
    simp only [oU, xk]
    try (by_cases k0 : k = (11, b0) <;> by_cases k1 : k = (7, b0 + 8) <;> simp_all)
  rw [e9] at O2
  refine ⟨H2, ?_, O2, z2.trans z1⟩
  refine ev_meth (by decide +kernel) (fun _ => Nat.le_of_ble_eq_true rfl) ?_
  rw [hN]
  refine w1 _ _ ?_
  refine ev_marks (M := MX11_back) (pc := 36) O1 g4 hin (hK q hqh hin) dX11_back_36 ?_
  exact w2
