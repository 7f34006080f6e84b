/-! NEW CELLS, as a list behind a heap -/
def nH (h : aH) (cs : List aC) (k : Nat) : aH := (fun i => if h.2.1 ≤ i then (cs[i - h.2.1]?).getD (h.1 i) else h.1 i, h.2.1 + cs.length, h.2.2 + k)
def bmp (h : aH) (a k : Nat) : aH := (h.1, h.2.1 + a, h.2.2 + k)
theorem nH_at {h : aH} {cs : List aC} {k j : Nat} {c : aC} (hj : cs[j]? = some c) : (nH h cs k).1 (h.2.1 + j) = c := by
  show (if h.2.1 ≤ h.2.1 + j then (cs[h.2.1 + j - h.2.1]?).getD _ else _) = c
  rw [if_pos (Nat.le_add_right _ _), Nat.add_sub_cancel_left, hj]; rfl
theorem nH_lt {h : aH} {cs : List aC} {k j : Nat} {c : aC} (hj : cs[j]? = some c) : h.2.1 + j < (nH h cs k).2.1 := by
  have : j < cs.length := (List.getElem?_eq_some_iff.mp hj).1
  show h.2.1 + j < h.2.1 + cs.length
  omega
theorem nH_up {h : aH} {cs : List aC} {k j : Nat} {c0 c : aC} (hj : cs[j]? = some c0) : a_up (nH h cs k) (h.2.1 + j) c = nH h (cs.set j c) k := by
  have hl : j < cs.length := (List.getElem?_eq_some_iff.mp hj).1
  refine Prod.ext (funext fun i => ?_) (Prod.ext (by show h.2.1 + cs.length = h.2.1 + (cs.set j c).length; rw [List.length_set]) rfl)
  show (if i = h.2.1 + j then c else if h.2.1 ≤ i then (cs[i - h.2.1]?).getD (h.1 i) else h.1 i) = if h.2.1 ≤ i then ((cs.set j c)[i - h.2.1]?).getD (h.1 i) else h.1 i
  by_cases e : i = h.2.1 + j
  · subst e
    rw [if_pos rfl, if_pos (Nat.le_add_right _ _), Nat.add_sub_cancel_left, List.getElem?_set_self hl]; rfl
  · rw [if_neg e]
    by_cases hi : h.2.1 ≤ i
    · rw [if_pos hi, if_pos hi, List.getElem?_set_ne (by omega)]
    · rw [if_neg hi, if_neg hi]
theorem nH_nw {h : aH} {cs : List aC} {k m : Nat} {c : aC} : a_nw (nH h cs k) c m = nH h (cs ++ [c]) (k + m) := by
  refine Prod.ext (funext fun i => ?_) (Prod.ext (by show h.2.1 + cs.length + 1 = h.2.1 + (cs ++ [c]).length; rw [List.length_append]; show _ = h.2.1 + (cs.length + 1); omega) (by show h.2.2 + k + m = h.2.2 + (k + m); omega))
  show (if i = h.2.1 + cs.length then c else if h.2.1 ≤ i then (cs[i - h.2.1]?).getD (h.1 i) else h.1 i) = if h.2.1 ≤ i then ((cs ++ [c])[i - h.2.1]?).getD (h.1 i) else h.1 i
  by_cases e : i = h.2.1 + cs.length
  · subst e
    rw [if_pos rfl, if_pos (Nat.le_add_right _ _), Nat.add_sub_cancel_left, List.getElem?_append_right (Nat.le_refl _), Nat.sub_self]; rfl
  · rw [if_neg e]
    by_cases hi : h.2.1 ≤ i
    · rw [if_pos hi, if_pos hi]
      by_cases hl : i - h.2.1 < cs.length
      · rw [List.getElem?_append_left hl]
      · rw [List.getElem?_eq_none (by omega), List.getElem?_eq_none (by rw [List.length_append]; show cs.length + 1 ≤ _; omega)]
    · rw [if_neg hi, if_neg hi]
theorem nH_0 {h : aH} {c : aC} {m : Nat} : a_nw h c m = nH h [c] m := by
  refine Prod.ext (funext fun i => ?_) rfl
  show (if i = h.2.1 then c else h.1 i) = if h.2.1 ≤ i then (([c] : List aC)[i - h.2.1]?).getD (h.1 i) else h.1 i
  by_cases e : i = h.2.1
  · subst e
    rw [if_pos rfl, if_pos (Nat.le_refl _), Nat.sub_self]; rfl
  · rw [if_neg e]
    by_cases hi : h.2.1 ≤ i
    · rw [if_pos hi, List.getElem?_eq_none (by show 1 ≤ _; omega)]; rfl
    · rw [if_neg hi]
theorem nH_app {h : aH} {cs ds : List aC} {k m : Nat} : nH (nH h cs k) ds m = nH h (cs ++ ds) (k + m) := by
  refine Prod.ext (funext fun i => ?_) (Prod.ext (by show h.2.1 + cs.length + ds.length = h.2.1 + (cs ++ ds).length; rw [List.length_append]; omega) (by show h.2.2 + k + m = h.2.2 + (k + m); omega))
  show (if h.2.1 + cs.length ≤ i then (ds[i - (h.2.1 + cs.length)]?).getD (if h.2.1 ≤ i then (cs[i - h.2.1]?).getD (h.1 i) else h.1 i) else (if h.2.1 ≤ i then (cs[i - h.2.1]?).getD (h.1 i) else h.1 i)) = if h.2.1 ≤ i then ((cs ++ ds)[i - h.2.1]?).getD (h.1 i) else h.1 i
  by_cases hi : h.2.1 ≤ i
  · rw [if_pos hi]
    by_cases hl : h.2.1 + cs.length ≤ i
    · rw [if_pos hl, if_pos hi, List.getElem?_append_right (by omega), show i - h.2.1 - cs.length = i - (h.2.1 + cs.length) by omega, List.getElem?_eq_none (l := cs) (by omega)]; rfl
    · rw [if_neg hl, if_pos hi, List.getElem?_append_left (by omega)]
  · rw [if_neg hi, if_neg (by omega : ¬ h.2.1 + cs.length ≤ i), if_neg hi]
/-- new cells that are a region -/
theorem nH_reg {h : aH} {cs : List aC} {k c : Nat} {f : Nat → Option Nat} {s : RS} (hx : ∀ o, xC c h.2.1 f s o = cs[o]?) : nH h cs k = oH (c, h.2.1, f, s) (bmp h cs.length k) := by
  refine Prod.ext (funext fun i => ?_) rfl
  show (if h.2.1 ≤ i then (cs[i - h.2.1]?).getD (h.1 i) else h.1 i) = if h.2.1 ≤ i then (xC c h.2.1 f s (i - h.2.1)).getD (h.1 i) else h.1 i
  rw [hx]
section nRules
variable {l : Launch} {d : Nat} {M : aM} {n0 S0 : Nat} {γ : Type} {Φ : γ → Option Value → aH → Prop} {pc : Nat} {lv : List (Nat × Value)} {st : List Value} {h : aH} {e : Option γ} {cs cs' : List aC} {k k' : Nat}
theorem n_put {index ci k0 j : Nat} {ty : FieldType} {fs : List Value} {v : Value} {fin : Bool} (hi : M.2.2.2.2 = true) (hf : a_FW M.2.1 index ci k0 ty fin) (hd : decode M.1 pc = .ok (.putfield index, 3)) (hj : cs[j]? = some (.inr (ci, fs))) (hl0 : k0 < fs.length) (hn : ∀ b, narrow ty (a_v b v) = a_v b v) (hfit : ∀ b, fits ty (a_v b v) = true) (he : cs.set j (.inr (ci, fs.set k0 v)) = cs') (kk : aS l d M n0 S0 Φ (pc + 3) lv st (nH h cs' k) e) : aS l d M n0 S0 Φ pc lv (v :: .ref (h.2.1 + j) :: st) (nH h cs k) e := by
  subst he
  cases fin with
  | false => exact s_put hf hd (nH_at hj) (nH_lt hj) hl0 hn hfit (nH_up hj) kk
  | true => exact s_putF hi hf hd (nH_at hj) (nH_lt hj) hl0 hn hfit (nH_up hj) kk
theorem n_newI {N j : Nat} {n : Int32} (hd : decode M.1 pc = .ok (.newarray .int, 2)) (hn0 : ¬ n < 0) (hN : n.toNatClampNeg = N) (hby : N ≤ 100000) (hj : cs.length = j) (he : cs ++ [.inl (0, z_I N)] = cs') (hk : k + N = k') (kk : aS l d M n0 S0 Φ (pc + 2) lv (.ref (h.2.1 + j) :: st) (nH h cs' k') e) : aS l d M n0 S0 Φ pc lv (.int n :: st) (nH h cs k) e := by
  subst hj; subst he; subst hk
  exact s_newI hd wa_int hn0 hN hby (by rw [nH_nw]; exact kk)
theorem n_newL {N j : Nat} {n : Int32} (hd : decode M.1 pc = .ok (.newarray .long, 2)) (hn0 : ¬ n < 0) (hN : n.toNatClampNeg = N) (hby : N ≤ 100000) (hj : cs.length = j) (he : cs ++ [.inl (1, z_L N)] = cs') (hk : k + N = k') (kk : aS l d M n0 S0 Φ (pc + 2) lv (.ref (h.2.1 + j) :: st) (nH h cs' k') e) : aS l d M n0 S0 Φ pc lv (.int n :: st) (nH h cs k) e := by
  subst hj; subst he; subst hk
  exact s_newL hd wa_long hn0 hN hby (by rw [nH_nw]; exact kk)
theorem n_newB {N j : Nat} {n : Int32} (hd : decode M.1 pc = .ok (.newarray .byte, 2)) (hn0 : ¬ n < 0) (hN : n.toNatClampNeg = N) (hby : N ≤ 100000) (hj : cs.length = j) (he : cs ++ [.inl (2, z_I N)] = cs') (hk : k + N = k') (kk : aS l d M n0 S0 Φ (pc + 2) lv (.ref (h.2.1 + j) :: st) (nH h cs' k') e) : aS l d M n0 S0 Φ pc lv (.int n :: st) (nH h cs k) e := by
  subst hj; subst he; subst hk
  exact s_newB hd wa_byte hn0 hN hby (by rw [nH_nw]; exact kk)
theorem n_newZ {N j : Nat} {n : Int32} (hd : decode M.1 pc = .ok (.newarray .boolean, 2)) (hn0 : ¬ n < 0) (hN : n.toNatClampNeg = N) (hby : N ≤ 100000) (hj : cs.length = j) (he : cs ++ [.inl (3, z_I N)] = cs') (hk : k + N = k') (kk : aS l d M n0 S0 Φ (pc + 2) lv (.ref (h.2.1 + j) :: st) (nH h cs' k') e) : aS l d M n0 S0 Φ pc lv (.int n :: st) (nH h cs k) e := by
  subst hj; subst he; subst hk
  exact s_newZ hd wa_boolean hn0 hN hby (by rw [nH_nw]; exact kk)
theorem n_new {index ci N j : Nat} {fs : List Value} (hf : a_NW M.2.1 index ci N fs) (hd : decode M.1 pc = .ok (.new index, 3)) (hj : cs.length = j) (he : cs ++ [.inr (ci, fs)] = cs') (hk : k + N = k') (kk : aS l d M n0 S0 Φ (pc + 3) lv (.ref (h.2.1 + j) :: st) (nH h cs' k') e) : aS l d M n0 S0 Φ pc lv st (nH h cs k) e := by
  subst hj; subst he; subst hk
  exact s_new hf hd (by rw [nH_nw]; exact kk)
theorem n_iast {n j : Nat} {f : Nat → Int32} {i x : Int32} (hd : decode M.1 pc = .ok (.iastore, 1)) (hj : cs[j]? = some (.inl (0, n, .inl f))) (hin : ¬ (i < 0 ∨ n ≤ i.toNatClampNeg)) (he : cs.set j (.inl (0, n, .inl (upd f i.toNatClampNeg x))) = cs') (kk : aS l d M n0 S0 Φ (pc + 1) lv st (nH h cs' k) e) : aS l d M n0 S0 Φ pc lv (.int x :: .int i :: .ref (h.2.1 + j) :: st) (nH h cs k) e := fun z hz => by
  subst he
  exact s_iast hd (nH_at hj) (nH_lt hj) (nH_up hj) kk z (by rw [g_in, if_neg hin]; exact hz)
/-- a constructor's call: nested, or of the same package -/
theorem n_callI {d' index np j N m : Nat} {y : MethodName} {cc : ByteArray} {nL : Nat} {As : List Value} {b0 : aC} {ds : List aC} (hf : a_CI M.2.1 index y cc nL np) (hdp : d' + 1 ≤ d) (hd : decode M.1 pc = .ok (.invokespecial index, 3)) (hlen : As.length = np) (hr : (st.map (fun v => v.category)).sum ≤ 8) (hj : cs.length = j) (hm : aMet l d' y cc nL none (.ref (h.2.1 + j) :: As) (nH (nH h cs k) [b0] N) none (nH (nH h cs k) ds m)) {stk : List Value} (hst : stk = As.reverse ++ .ref (h.2.1 + j) :: st) (he : cs ++ ds = cs') (hk : k + m = k') (kk : aS l d M n0 S0 Φ (pc + 3) lv st (nH h cs' k') e) : aS l d M n0 S0 Φ pc lv stk (nH h (cs ++ [b0]) (k + N)) e := by
  subst he; subst hk
  rw [nH_app, nH_app] at hm
  have q := s_callI (Φ := Φ) (n0 := n0) (S0 := S0) (lv := lv) (ec := some ()) (kf := fun _ => e) (Ψ := fun _ => (none, nH h (cs ++ ds) (k + m))) hf hdp hd hlen hr (fun _ _ => hm) hst (fun _ _ => kk)
  exact q
theorem n_callN {d' index np j N m : Nat} {y : MethodName} {cc : ByteArray} {nL : Nat} {As : List Value} {b0 : aC} {ds : List aC} (hf : a_CN M.2.1 index y cc nL np) (hdp : d' + 1 ≤ d) (hd : decode M.1 pc = .ok (.invokespecial index, 3)) (hlen : As.length = np) (hr : (st.map (fun v => v.category)).sum ≤ 8) (hj : cs.length = j) (hm : aMet l d' y cc nL none (.ref (h.2.1 + j) :: As) (nH (nH h cs k) [b0] N) none (nH (nH h cs k) ds m)) {stk : List Value} (hst : stk = As.reverse ++ .ref (h.2.1 + j) :: st) (he : cs ++ ds = cs') (hk : k + m = k') (kk : aS l d M n0 S0 Φ (pc + 3) lv st (nH h cs' k') e) : aS l d M n0 S0 Φ pc lv stk (nH h (cs ++ [b0]) (k + N)) e := by
  subst he; subst hk
  rw [nH_app, nH_app] at hm
  have q := s_callN (Φ := Φ) (n0 := n0) (S0 := S0) (lv := lv) (ec := some ()) (kf := fun _ => e) (Ψ := fun _ => (none, nH h (cs ++ ds) (k + m))) hf hdp hd hlen hr (fun _ _ => hm) hst (fun _ _ => kk)
  exact q
theorem s_geT {x y : Int32} {off : Int} {tgt : Nat} {hh : aH} (hc : y ≤ x) (hd : decode M.1 pc = .ok (.if_icmp .ge off, 3)) (ht : (pc : Int) + off = (tgt : Int)) (kk : aS l d M n0 S0 Φ tgt lv st hh e) : aS l d M n0 S0 Φ pc lv (.int y :: .int x :: st) hh e := fun z hz => s_icmp_ge (e1 := e) (e2 := none) hd ht (fun _ => kk) (fun q => absurd hc q) z (by rw [if_pos hc]; exact hz)
theorem s_geF {x y : Int32} {off : Int} {tgt : Nat} {hh : aH} (hc : ¬ y ≤ x) (hd : decode M.1 pc = .ok (.if_icmp .ge off, 3)) (ht : (pc : Int) + off = (tgt : Int)) (kk : aS l d M n0 S0 Φ (pc + 3) lv st hh e) : aS l d M n0 S0 Φ pc lv (.int y :: .int x :: st) hh e := fun z hz => s_icmp_ge (e1 := none) (e2 := e) hd ht (fun q => absurd q hc) (fun _ => kk) z (by rw [if_neg hc]; exact hz)
end nRules
