section xCalls
variable {l : Launch} {d : Nat} {M : aM} {n0 S0 : Nat} {γ : Type} {Φ : γ → Option Value → aH → Prop} {pc : Nat} {lv : List (Nat × Value)} {st : List Value} {h : aH} {e : Option γ} {L Lc : List XR}
theorem x_callV {δ : Type} {d' index ci np j a : Nat} {f : Nat → Option Nat} {s : RS} {y : MethodName} {cc : ByteArray} {nL : Nat} {ret : Option FieldType} {A : δ → Option Value} {Lr L2 : δ → List XR} {ec : Option δ} {kf : δ → Option γ} {As fs : List Value} (hf : a_CV M.2.1 index ci y cc nL ret np) (hdp : d' + 1 ≤ d) (hd : decode M.1 pc = .ok (.invokevirtual index, 3)) (ho : xok (L.map xk) h.2.1) (hj : L[j]? = some (ci, a, f, s)) (hc : xC ci a f s 0 = some (.inr (ci, fs))) (hx : xD ci 0 = true) (hlen : As.length = np) (hr : (st.map (fun v => v.category)).sum ≤ 8)
    (e1 : xw Lc (xw L h) = xw L h) (e2 : ∀ x, xw (Lr x) (xw L h) = xw (L2 x) h) (hm : ∀ x, ec = some x → aMet l d' y cc nL ret (.ref a :: As) (xw Lc (xw L h)) (A x) (xw (Lr x) (xw L h))) {stk : List Value} (hst : stk = As.reverse ++ .ref a :: st) (k : ∀ x, ec = some x → aS l d M n0 S0 Φ (pc + 3) lv ((A x).toList ++ st) (xw (L2 x) h) (kf x)) : aS l d M n0 S0 Φ pc lv stk (xw L h) (ec.bind kf) :=
  s_callV (Ψ := fun x => (A x, xw (L2 x) h)) hf hdp hd (xw_at (o := 0) ho hj hc) (xw_lt (o := 0) ho hj hx) hlen hr (fun x hx => by have q := hm x hx; rw [e1, e2] at q; exact q) hst k
theorem x_callS {δ : Type} {d' index np : Nat} {y : MethodName} {cc : ByteArray} {nL : Nat} {ret : Option FieldType} {A : δ → Option Value} {Lr L2 : δ → List XR} {ec : Option δ} {kf : δ → Option γ} {As : List Value} (hf : a_CS M.2.1 index y cc nL ret np) (hdp : d' + 1 ≤ d) (hd : decode M.1 pc = .ok (.invokestatic index, 3)) (hlen : As.length = np) (hr : (st.map (fun v => v.category)).sum ≤ 8)
    (e1 : xw Lc (xw L h) = xw L h) (e2 : ∀ x, xw (Lr x) (xw L h) = xw (L2 x) h) (hm : ∀ x, ec = some x → aMet l d' y cc nL ret As (xw Lc (xw L h)) (A x) (xw (Lr x) (xw L h))) {stk : List Value} (hst : stk = As.reverse ++ st) (k : ∀ x, ec = some x → aS l d M n0 S0 Φ (pc + 3) lv ((A x).toList ++ st) (xw (L2 x) h) (kf x)) : aS l d M n0 S0 Φ pc lv stk (xw L h) (ec.bind kf) :=
  s_callS (Ψ := fun x => (A x, xw (L2 x) h)) hf hdp hd hlen hr (fun x hx => by have q := hm x hx; rw [e1, e2] at q; exact q) hst k
theorem s_nullJ {off : Int} {tgt : Nat} (hd : decode M.1 pc = .ok (.ifnonnull off, 3)) (k : aS l d M n0 S0 Φ (pc + 3) lv st h e) : aS l d M n0 S0 Φ pc lv (.null :: st) h e := a_step (fun p e R s m args below meth c D dA b H locs cells slots Q ls C hl hP k => lv_ifnonnullN C.1 C.2.1 hd k) k
theorem s_refJ {off : Int} {tgt a : Nat} (hd : decode M.1 pc = .ok (.ifnonnull off, 3)) (ht : (pc : Int) + off = (tgt : Int)) (k : aS l d M n0 S0 Φ tgt lv st h e) : aS l d M n0 S0 Φ pc lv (.ref a :: st) h e := a_step (fun p e R s m args below meth c D dA b H locs cells slots Q ls C hl hP k => lv_ifnonnull C.1 C.2.1 hd ht k) k
end xCalls
theorem lk1 {x : Int32} {a o : Int} {r : List (Int × Int)} {dflt off : Int} (hn : ¬ x = Int32.ofInt a) (h : Op.lookupswitch.offset r dflt x.toInt = off) : Op.lookupswitch.offset ((a, o) :: r) dflt x.toInt = off := by
  rw [Op.lookupswitch.offset_cons, if_neg (fun e => hn (by rw [e]; exact (Int32.ofInt_toInt x).symm))]
  exact h
theorem xc0_0 {b : Nat} {f : Nat → Option Nat} {s : RS} : xC 0 b f s 0 = some (.inr (0, xF0 b f s)) := rfl
theorem xc0_1 {b : Nat} {f : Nat → Option Nat} {s : RS} : xC 1 b f s 0 = some (.inr (1, xF1 b f s)) := rfl
theorem xc0_2 {b : Nat} {f : Nat → Option Nat} {s : RS} : xC 2 b f s 0 = some (.inr (2, xF2 b f s)) := rfl
theorem xc0_3 {b : Nat} {f : Nat → Option Nat} {s : RS} : xC 3 b f s 0 = some (.inr (3, xF3 b f s)) := rfl
theorem xc0_4 {b : Nat} {f : Nat → Option Nat} {s : RS} : xC 4 b f s 0 = some (.inr (4, xF4 b f s)) := rfl
theorem xc0_5 {b : Nat} {f : Nat → Option Nat} {s : RS} : xC 5 b f s 0 = some (.inr (5, xF5 b f s)) := rfl
theorem xc0_6 {b : Nat} {f : Nat → Option Nat} {s : RS} : xC 6 b f s 0 = some (.inr (6, xF6 b f s)) := rfl
theorem xc0_7 {b : Nat} {f : Nat → Option Nat} {s : RS} : xC 7 b f s 0 = some (.inr (7, xF7 b f s)) := rfl
theorem xc0_8 {b : Nat} {f : Nat → Option Nat} {s : RS} : xC 8 b f s 0 = some (.inr (8, xF8 b f s)) := rfl
theorem xc0_9 {b : Nat} {f : Nat → Option Nat} {s : RS} : xC 9 b f s 0 = some (.inr (9, xF9 b f s)) := rfl
theorem xc0_10 {b : Nat} {f : Nat → Option Nat} {s : RS} : xC 10 b f s 0 = some (.inr (10, xF10 b f s)) := rfl
theorem xc0_11 {b : Nat} {f : Nat → Option Nat} {s : RS} : xC 11 b f s 0 = some (.inr (11, xF11 b f s)) := rfl
