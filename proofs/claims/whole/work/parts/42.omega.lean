/-! A WORLD BY KEYS: what a heap holds, by (class, base) -/
abbrev oT : Type := Nat × Nat → Option ((Nat → Option Nat) × RS)
def oK (Ω : oT) (n : Nat) : Prop := (∀ k k', (Ω k).isSome = true → (Ω k').isSome = true → k ≠ k' → ∀ o o', xD k.1 o = true → xD k'.1 o' = true → k.2 + o ≠ k'.2 + o') ∧ ∀ k, (Ω k).isSome = true → ∀ o, xD k.1 o = true → k.2 + o < n
def wO (H : aH) (Ω : oT) (n : Nat) : Prop := oK Ω n ∧ n ≤ H.2.1 ∧ ∀ c b f s, Ω (c, b) = some (f, s) → ∀ o x, xC c b f s o = some x → H.1 (b + o) = x
def oM (Ω : oT) : List XR → Prop
  | [] => True
  | r :: L => Ω (xk r) = some r.2.2 ∧ oM Ω L
def oU : List XR → oT → oT
  | [], Ω => Ω
  | r :: L, Ω => fun k => if k = xk r then some r.2.2 else oU L Ω k
/-- the keys are there -/
def oS (Ω : oT) : List XR → Prop
  | [] => True
  | r :: L => (Ω (xk r)).isSome = true ∧ oS Ω L
theorem oS_of {Ω : oT} {L L' : List XR} (hm : oM Ω L) (hk : L'.map xk = L.map xk) : oS Ω L' := by
  induction L generalizing L' with
  | nil => cases L' with
    | nil => trivial
    | cons r L' => cases hk
  | cons q L ih => cases L' with
    | nil => trivial
    | cons r L' =>
      have h1 : xk r = xk q := (List.cons.inj hk).1
      refine ⟨?_, ih hm.2 (List.cons.inj hk).2⟩
      rw [h1, hm.1]; rfl
theorem wO_lay {H : aH} {Ω : oT} {n : Nat} (hO : wO H Ω n) : ∀ {L : List XR}, oM Ω L → xw L H = H
  | [], _ => rfl
  | r :: L, hm => by
    show oH r (xw L H) = H
    rw [wO_lay hO hm.2]
    obtain ⟨c, b, f, s⟩ := r
    refine Prod.ext (funext fun i => ?_) rfl
    show (if b ≤ i then (xC c b f s (i - b)).getD (H.1 i) else H.1 i) = H.1 i
    by_cases hb : b ≤ i
    · rw [if_pos hb]
      cases hx : xC c b f s (i - b) with
      | none => rfl
      | some x =>
        have := hO.2.2 c b f s hm.1 _ _ hx
        rw [show b + (i - b) = i by omega] at this
        exact this.symm
    · rw [if_neg hb]
theorem oM_at {Ω : oT} : ∀ {L : List XR} {i : Nat} {p : Nat × Nat}, oM Ω L → (L.map xk)[i]? = some p → (Ω p).isSome = true
  | [], _, _, _, h => by simp at h
  | r :: L, 0, p, hm, h => by
    have : xk r = p := by simpa using h
    rw [← this, hm.1]; rfl
  | r :: L, i + 1, p, hm, h => oM_at (L := L) (i := i) hm.2 (by simpa using h)
theorem wO_ok {H : aH} {Ω : oT} {n : Nat} (hO : wO H Ω n) {L : List XR} (hm : oM Ω L) (hn : (L.map xk).Nodup) : xok (L.map xk) H.2.1 := by
  refine ⟨fun i j p q hp hq hij o o' ho ho' => hO.1.1 p q (oM_at hm hp) (oM_at hm hq) (fun e => ?_) o o' ho ho', fun i p hp o ho => Nat.lt_of_lt_of_le (hO.1.2 p (oM_at hm hp) o ho) hO.2.1⟩
  subst e
  exact hij ((List.getElem?_inj (List.getElem?_eq_some_iff.mp hp).1 hn).mp (hp.trans hq.symm))
theorem wO_1 {H : aH} {Ω : oT} {n : Nat} (hO : wO H Ω n) {r : XR} (hr : (Ω (xk r)).isSome = true) : wO (oH r H) (fun k => if k = xk r then some r.2.2 else Ω k) n := by
  obtain ⟨c, b, f, s⟩ := r
  have hs : ∀ k, ((if k = xk (c, b, f, s) then some (f, s) else Ω k) : Option ((Nat → Option Nat) × RS)).isSome = true → (Ω k).isSome = true := by
    intro k hk
    by_cases e : k = xk (c, b, f, s)
    · rw [e]; exact hr
    · rw [if_neg e] at hk; exact hk
  refine ⟨⟨fun k k' h1 h2 => hO.1.1 k k' (hs k h1) (hs k' h2), fun k h1 => hO.1.2 k (hs k h1)⟩, hO.2.1, fun c' b' f' s' h1 o x hx => ?_⟩
  show (if b ≤ b' + o then (xC c b f s (b' + o - b)).getD (H.1 (b' + o)) else H.1 (b' + o)) = x
  by_cases e : ((c', b') : Nat × Nat) = xk (c, b, f, s)
  · cases e
    have h1' : some (f, s) = some (f', s') := by rw [← h1]; exact (if_pos rfl).symm
    cases h1'
    rw [if_pos (Nat.le_add_right _ _), Nat.add_sub_cancel_left, hx]; rfl
  · have h1' : Ω (c', b') = some (f', s') := by rw [← h1]; exact (if_neg e).symm
    have h2 := hO.2.2 c' b' f' s' h1' o x hx
    by_cases hb : b ≤ b' + o
    · rw [if_pos hb]
      cases hq : xC c b f s (b' + o - b) with
      | none => exact h2
      | some y =>
        exfalso
        have d1 : xD c (b' + o - b) = true := by rw [← xd c b f s, hq]; rfl
        have d2 : xD c' o = true := by rw [← xd c' b' f' s', hx]; rfl
        exact hO.1.1 (c, b) (c', b') hr (by rw [h1']; rfl) (fun q => e q.symm) _ _ d1 d2 (by show b + (b' + o - b) = b' + o; omega)
    · rw [if_neg hb]; exact h2
theorem oU_some {Ω : oT} : ∀ {L : List XR} {k : Nat × Nat}, (Ω k).isSome = true → (oU L Ω k).isSome = true
  | [], _, h => h
  | r :: L, k, h => by
    show (if k = xk r then some r.2.2 else oU L Ω k).isSome = true
    by_cases e : k = xk r
    · rw [if_pos e]; rfl
    · rw [if_neg e]; exact oU_some h
/-- what is laid is there -/
theorem wO_up {H : aH} {Ω : oT} {n : Nat} (hO : wO H Ω n) : ∀ {L : List XR}, oS Ω L → wO (xw L H) (oU L Ω) n
  | [], _ => hO
  | r :: L, hm => wO_1 (wO_up hO hm.2) (oU_some hm.1)
theorem oU_k {Ω : oT} {L K : List XR} {r : XR} (e : oU L Ω = oU K Ω) : oU (r :: L) Ω = oU (r :: K) Ω := by
  funext k
  show (if k = xk r then some r.2.2 else oU L Ω k) = _
  rw [e]; rfl
theorem oU_s {Ω : oT} {L K : List XR} {r : XR} (e : oU L Ω = oU K Ω) (h : oU K Ω (xk r) = some r.2.2) : oU (r :: L) Ω = oU K Ω := by
  funext k
  show (if k = xk r then some r.2.2 else oU L Ω k) = _
  rw [e]
  by_cases q : k = xk r
  · rw [if_pos q, q, h]
  · rw [if_neg q]
theorem wO_nH {H : aH} {Ω : oT} {n : Nat} {cs : List aC} {k : Nat} (hO : wO H Ω n) : wO (nH H cs k) Ω n := by
  refine ⟨hO.1, Nat.le_trans hO.2.1 (Nat.le_add_right _ _), fun c b f s h1 o x hx => ?_⟩
  have d2 : xD c o = true := by rw [← xd c b f s, hx]; rfl
  have h2 : b + o < n := hO.1.2 (c, b) (by rw [h1]; rfl) o d2
  have h3 := hO.2.1
  show (if H.2.1 ≤ b + o then _ else H.1 (b + o)) = x
  rw [if_neg (by omega)]
  exact hO.2.2 c b f s h1 o x hx
theorem wO_bmp {H : aH} {Ω : oT} {n a k : Nat} (hO : wO H Ω n) : wO (bmp H a k) Ω n := ⟨hO.1, Nat.le_trans hO.2.1 (Nat.le_add_right _ _), hO.2.2⟩
/-- a region more -/
theorem wO_add {H : aH} {Ω : oT} {n m : Nat} (hO : wO H Ω n) {r : XR} (hf : ∀ o, xD r.1 o = true → n ≤ r.2.1 + o ∧ r.2.1 + o < m) (hnm : n ≤ m) (hm : m ≤ H.2.1) : wO (oH r H) (oU [r] Ω) m := by
  obtain ⟨c, b, f, s⟩ := r
  have hU : ∀ k, oU [(c, b, f, s)] Ω k = if k = xk (c, b, f, s) then some (f, s) else Ω k := fun _ => rfl
  refine ⟨⟨fun k k' h1 h2 hk o o' ho ho' => ?_, fun k h1 o ho => ?_⟩, hm, fun c' b' f' s' h1 o x hx => ?_⟩
  · rw [hU] at h1 h2
    by_cases e : k = xk (c, b, f, s)
    · by_cases e' : k' = xk (c, b, f, s)
      · exact absurd (e.trans e'.symm) hk
      · rw [if_neg e'] at h2
        subst e
        have := hO.1.2 k' h2 o' ho'
        have q := (hf o ho).1
        show b + o ≠ k'.2 + o'
        dsimp only at q
        omega
    · rw [if_neg e] at h1
      by_cases e' : k' = xk (c, b, f, s)
      · subst e'
        have := hO.1.2 k h1 o ho
        have q := (hf o' ho').1
        show k.2 + o ≠ b + o'
        dsimp only at q
        omega
      · rw [if_neg e'] at h2
        exact hO.1.1 k k' h1 h2 hk o o' ho ho'
  · rw [hU] at h1
    by_cases e : k = xk (c, b, f, s)
    · subst e; exact (hf o ho).2
    · rw [if_neg e] at h1
      exact Nat.lt_of_lt_of_le (hO.1.2 k h1 o ho) hnm
  · rw [hU] at h1
    show (if b ≤ b' + o then (xC c b f s (b' + o - b)).getD (H.1 (b' + o)) else H.1 (b' + o)) = x
    by_cases e : ((c', b') : Nat × Nat) = xk (c, b, f, s)
    · cases e
      rw [if_pos rfl] at h1
      cases h1
      rw [if_pos (Nat.le_add_right _ _), Nat.add_sub_cancel_left, hx]; rfl
    · rw [if_neg e] at h1
      have h2 := hO.2.2 c' b' f' s' h1 o x hx
      have d2 : xD c' o = true := by rw [← xd c' b' f' s', hx]; rfl
      have h3 := hO.1.2 (c', b') (by rw [h1]; rfl) o d2
      by_cases hb : b ≤ b' + o
      · rw [if_pos hb]
        cases hq : xC c b f s (b' + o - b) with
        | none => exact h2
        | some y =>
          exfalso
          have d1 : xD c (b' + o - b) = true := by rw [← xd c b f s, hq]; rfl
          have q := (hf _ d1).1
          dsimp only at q h3
          omega
      · rw [if_neg hb]; exact h2
theorem wO_cell {H : aH} {Ω : oT} {n c b o : Nat} {f : Nat → Option Nat} {s : RS} {x : aC} (hO : wO H Ω n) (hk : Ω (c, b) = some (f, s)) (hx : xC c b f s o = some x) : H.1 (b + o) = x ∧ b + o < H.2.1 := ⟨hO.2.2 c b f s hk o x hx, Nat.lt_of_lt_of_le (hO.1.2 (c, b) (by rw [hk]; rfl) o (by rw [← xd c b f s, hx]; rfl)) hO.2.1⟩
theorem wO_ne {H : aH} {Ω : oT} {n c b : Nat} {f : Nat → Option Nat} {s : RS} (hO : wO H Ω n) (hk : Ω (c, b) = some (f, s)) (hx : xD c 0 = true) : b < n := hO.1.2 (c, b) (by rw [hk]; rfl) 0 hx
section aEvs
variable {l : Launch} {d : Nat} {M : aM} {n0 S0 pc : Nat} {lv : List (Nat × Value)} {st : List Value} {h h1 h' : aH} {r r1 : Option Value}
theorem ev_of (k : aS l d M n0 S0 (fun (_ : Unit) r2 h2 => r2 = r ∧ h2 = h') pc lv st h (some ())) : aEv l d M n0 S0 pc lv st h r h' := k () rfl r h' ⟨rfl, rfl⟩
theorem ev_as (k : aEv l d M n0 S0 pc lv st h r h') : aS l d M n0 S0 (fun (_ : Unit) r2 h2 => r2 = r ∧ h2 = h') pc lv st h (some ()) := fun _ _ _ _ hh => by obtain ⟨rfl, rfl⟩ := hh; exact k
theorem ev_callV {d' index ci np a : Nat} {y : MethodName} {cc : ByteArray} {nL : Nat} {ret : Option FieldType} {As fs : List Value} (hf : a_CV M.2.1 index ci y cc nL ret np) (hdp : d' + 1 ≤ d) (hd : decode M.1 pc = .ok (.invokevirtual index, 3)) (hc : h.1 a = .inr (ci, fs)) (ha : a < h.2.1) (hlen : As.length = np) (hr : (st.map (fun v => v.category)).sum ≤ 8) (hm : aMet l d' y cc nL ret (.ref a :: As) h r1 h1) {stk : List Value} (hst : stk = As.reverse ++ .ref a :: st) (k : aEv l d M n0 S0 (pc + 3) lv (r1.toList ++ st) h1 r h') : aEv l d M n0 S0 pc lv stk h r h' :=
  ev_of (s_callV (ec := some ()) (kf := fun _ => some ()) (Ψ := fun (_ : Unit) => (r1, h1)) hf hdp hd hc ha hlen hr (fun _ _ => hm) hst (fun _ _ => ev_as k))
theorem ev_callI {d' index np a : Nat} {y : MethodName} {cc : ByteArray} {nL : Nat} {As : List Value} (hf : a_CI M.2.1 index y cc nL np) (hdp : d' + 1 ≤ d) (hd : decode M.1 pc = .ok (.invokespecial index, 3)) (hlen : As.length = np) (hr : (st.map (fun v => v.category)).sum ≤ 8) (hm : aMet l d' y cc nL none (.ref a :: As) h none h1) {stk : List Value} (hst : stk = As.reverse ++ .ref a :: st) (k : aEv l d M n0 S0 (pc + 3) lv st h1 r h') : aEv l d M n0 S0 pc lv stk h r h' :=
  ev_of (s_callI (ec := some ()) (kf := fun _ => some ()) (Ψ := fun (_ : Unit) => (none, h1)) hf hdp hd hlen hr (fun _ _ => hm) hst (fun _ _ => ev_as k))
theorem ev_meth {y : MethodName} {cc : ByteArray} {nL : Nat} {ret : Option FieldType} {av : List Value} (hy : plainName y.cls = true) (hsl : ∀ b, (lg_sl (av.map (a_v b))).length ≤ nL) (body : aEv l d (cc, y.cls, nL, ret, false) h.2.1 h.2.2 0 (lv_args 0 av) [] h r h') : aMet l d y cc nL ret av h r h' :=
  a_meth (ini := false) hy (fun q => by cases q) hsl (ev_as body) () rfl _ _ ⟨rfl, rfl⟩
end aEvs
