section aNew
variable {l : Launch} {d : Nat} {M : aM} {n0 S0 : Nat} {γ : Type} {Φ : γ → Option Value → aH → Prop} {pc : Nat} {lv : List (Nat × Value)} {st : List Value} {h h2 : aH} {e e1 e2 : Option γ}
/-- a new cell lies behind all others -/
theorem a_addr {p : Program} {l : Launch} {e : Env} {R : Room} {s : State} {m : MethodId} {args : Array Value} {below : List Frame} {meth : Method} {c : Code} {T : State} {locs : List Loc} {k2 b n0 q : Nat} {H1 : Heap} {D : va_G} {dA : Nat → ClassId} {h : aH} {x : va_E}
    (X : Stand p l e R s m args below meth c T locs (h.2.1 - n0 + 1) k2) (hT : T.heap = H1) (hs : s.heap.size = b + n0) (hn : n0 ≤ h.2.1) (hP : va_P D vwCl (a_w b dA h ++ [(q, x)]) H1) (hD : va_D (fun q => b ≤ q) (a_w b dA h ++ [(q, x)])) : q = b + h.2.1 := by
  have hlen : (a_w b dA h).length = h.2.1 := by simp [a_w]
  have hlast : (a_w b dA h ++ [(q, x)])[h.2.1]? = some (q, x) := by
    rw [List.getElem?_append_right (by omega), hlen, Nat.sub_self]; rfl
  have h1 : q < H1.size := (hP _ _ hlast).lt
  have h2 : T.heap.size ≤ s.heap.size + (h.2.1 - n0 + 1) := X.same.2.2.1
  rw [hT] at h2
  have h3 : b ≤ q := hD.2 _ _ hlast
  by_cases hlt : q < b + h.2.1
  · exfalso
    have hi : q - b < h.2.1 := by omega
    have h4 : (a_w b dA h ++ [(q, x)])[q - b]? = some (b + (q - b), a_e b dA (h.1 (q - b))) := by
      rw [List.getElem?_append_left (by omega)]; exact a_w_at hi
    have := hD.1 _ _ _ _ h4 hlast (by show b + (q - b) = q; omega)
    omega
  · omega
theorem s_new {index ci N : Nat} {fs : List Value} (hf : a_NW M.2.1 index ci N fs) (hd : decode M.1 pc = .ok (.new index, 3)) (k : aS l d M n0 S0 Φ (pc + 3) lv (.ref h.2.1 :: st) (a_nw h (.inr (ci, fs)) N) e) : aS l d M n0 S0 Φ pc lv st h e := by
  obtain ⟨C0, T, ty, h1, h2, h3, h4, h5, h6, h7, h8⟩ := hf
  intro z hz r h' hr
  obtain ⟨q1, q2, q3⟩ := k z hz r h' hr
  have q1' : h.2.1 + 1 ≤ h'.2.1 := q1
  have q2' : h.2.2 + N ≤ h'.2.2 := q2
  refine ⟨by omega, by omega, fun p e s m args below meth c D dA b H locs ls C hs hn hS hl hP hQ => ?_⟩
  refine va_new (ws := a_w b dA h) (fs := fs) (ci := ci) (A := fun q => b ≤ q) (H0 := s.heap) C.1 C.2.1 C.2.2.2.2.1 h2 ty h3 C.2.2.2.1 (C.2.2.2.2.1 _ h4) (C.2.2.2.2.1 _ h5) (C.2.2.2.2.1 _ h6) C.2.2.2.2.2.2.2.2.2 hP (a_D b dA h) hQ (fun q hq => by omega) h1 h7 (by show h.2.1 - n0 + 1 ≤ h'.2.1 - n0; omega) (by show h.2.2 - S0 + N ≤ h'.2.2 - S0; omega) hd (fun q H1 hP1 hD1 hS1 => ?_)
  intro T' hT X
  have hq := a_addr X hT hs hn hP1 hD1
  subst hq
  have e1 : a_w b dA h ++ [(b + h.2.1, (Sum.inr (ci, fs) : va_E))] = a_w b dA (a_nw h (.inr (ci, fs)) N) := by
    rw [← a_app]
    show _ = a_w b dA h ++ [(b + h.2.1, (Sum.inr (ci, fs.map (a_v b)) : va_E))]
    rw [h8 b]
  rw [e1] at hP1
  have key := q3 p e s m args below meth c D dA b H1 locs ls C hs (by show n0 ≤ h.2.1 + 1; omega) (by show S0 ≤ h.2.2 + N; omega) hl hP1 hS1
  rw [show (a_nw h (.inr (ci, fs)) N).2.1 - n0 = h.2.1 - n0 + 1 by show h.2.1 + 1 - n0 = _; omega, show (a_nw h (.inr (ci, fs)) N).2.2 - S0 = h.2.2 - S0 + N by show h.2.2 + N - S0 = _; omega] at key
  exact key T' hT X
theorem s_newa {atype : ArrayType} {t N : Nat} {ty : FieldType} {n : Int32} {a0 : vp_A} (hd : decode M.1 pc = .ok (.newarray atype, 2)) (hw : Cond.arrayClass (newarray.typeOf atype) ∈ gT) (hty : newarray.typeOf atype = ty) (ht : ∀ dA, (a_ty dA)[t]? = some (dA t, ty)) (hra : ∀ (U : State) (cA : ClassId), va_RA U cA ty → U.vm.findClass ("[" ++ ty.toString) = some cA) (ha : ∀ cA : ClassId, vp_cell cA a0 = arrV cA N (fun _ => defaultValue ty)) (ha2 : ∀ b, a_a b a0 = a0) (hn0 : ¬ n < 0) (hN : n.toNatClampNeg = N) (hby : N * componentBytes ty ≤ 536870912)
    (k : aS l d M n0 S0 Φ (pc + 2) lv (.ref h.2.1 :: st) (a_nw h (.inl (t, a0)) N) e) : aS l d M n0 S0 Φ pc lv (.int n :: st) h e := by
  intro z hz r h' hr
  obtain ⟨q1, q2, q3⟩ := k z hz r h' hr
  have q1' : h.2.1 + 1 ≤ h'.2.1 := q1
  have q2' : h.2.2 + N ≤ h'.2.2 := q2
  refine ⟨by omega, by omega, fun p e s m args below meth c D dA b H locs ls C hs hn hS hl hP hQ => ?_⟩
  have hK := C.2.2.2.2.2.2.2.2.2
  refine va_newa (ws := a_w b dA h) (A := fun q => b ≤ q) (H0 := s.heap) C.1 C.2.1 (C.2.2.2.2.1 _ hw) hty hK hP (a_D b dA h) hQ (fun q hq => by omega) ha hn0 hN hby (by show h.2.1 - n0 + 1 ≤ h'.2.1 - n0; omega) (by show h.2.2 - S0 + N ≤ h'.2.2 - S0; omega) hd (fun q cA H1 hK1 hP1 hD1 hS1 => ?_)
  intro T' hT X
  have hq := a_addr X hT hs hn hP1 hD1
  subst hq
  have hcA : cA = dA t := by
    have f1 := hra _ _ (hK.2 t _ (ht dA)).2
    have f2 := hra _ _ (hK1.2 6 _ (show (a_ty dA ++ [(cA, ty)])[6]? = some (cA, ty) from rfl)).2
    exact Option.some.inj (f2.symm.trans f1)
  subst hcA
  have e1 : a_w b dA h ++ [(b + h.2.1, (Sum.inl (dA t, a0) : va_E))] = a_w b dA (a_nw h (.inl (t, a0)) N) := by
    rw [← a_app]
    show _ = a_w b dA h ++ [(b + h.2.1, (Sum.inl (dA t, a_a b a0) : va_E))]
    rw [ha2 b]
  rw [e1] at hP1
  have key := q3 p e s m args below meth c D dA b H1 locs ls C hs (by show n0 ≤ h.2.1 + 1; omega) (by show S0 ≤ h.2.2 + N; omega) hl hP1 hS1
  rw [show (a_nw h (.inl (t, a0)) N).2.1 - n0 = h.2.1 - n0 + 1 by show h.2.1 + 1 - n0 = _; omega, show (a_nw h (.inl (t, a0)) N).2.2 - S0 = h.2.2 - S0 + N by show h.2.2 + N - S0 = _; omega] at key
  exact key T' hT X
/-- the array of N zeros -/
def z_I (N : Nat) : vp_A := (N, .inl (fun _ => 0))
def z_L (N : Nat) : vp_A := (N, .inr (.inl (fun _ => 0)))
theorem s_newI {N : Nat} {n : Int32} (hd : decode M.1 pc = .ok (.newarray .int, 2)) (hw : Cond.arrayClass .int ∈ gT) (hn0 : ¬ n < 0) (hN : n.toNatClampNeg = N) (hby : N ≤ 100000) (k : aS l d M n0 S0 Φ (pc + 2) lv (.ref h.2.1 :: st) (a_nw h (.inl (0, z_I N)) N) e) : aS l d M n0 S0 Φ pc lv (.int n :: st) h e :=
  s_newa (ty := .int) (t := 0) (a0 := z_I N) hd hw rfl (fun _ => rfl) (fun _ _ x => x) (fun _ => rfl) (fun _ => rfl) hn0 hN (by show N * 4 ≤ _; omega) k
theorem s_newL {N : Nat} {n : Int32} (hd : decode M.1 pc = .ok (.newarray .long, 2)) (hw : Cond.arrayClass .long ∈ gT) (hn0 : ¬ n < 0) (hN : n.toNatClampNeg = N) (hby : N ≤ 100000) (k : aS l d M n0 S0 Φ (pc + 2) lv (.ref h.2.1 :: st) (a_nw h (.inl (1, z_L N)) N) e) : aS l d M n0 S0 Φ pc lv (.int n :: st) h e :=
  s_newa (ty := .long) (t := 1) (a0 := z_L N) hd hw rfl (fun _ => rfl) (fun _ _ x => x) (fun _ => rfl) (fun _ => rfl) hn0 hN (by show N * 8 ≤ _; omega) k
theorem s_newB {N : Nat} {n : Int32} (hd : decode M.1 pc = .ok (.newarray .byte, 2)) (hw : Cond.arrayClass .byte ∈ gT) (hn0 : ¬ n < 0) (hN : n.toNatClampNeg = N) (hby : N ≤ 100000) (k : aS l d M n0 S0 Φ (pc + 2) lv (.ref h.2.1 :: st) (a_nw h (.inl (2, z_I N)) N) e) : aS l d M n0 S0 Φ pc lv (.int n :: st) h e :=
  s_newa (ty := .byte) (t := 2) (a0 := z_I N) hd hw rfl (fun _ => rfl) (fun _ _ x => x) (fun _ => rfl) (fun _ => rfl) hn0 hN (by show N * 1 ≤ _; omega) k
theorem s_newZ {N : Nat} {n : Int32} (hd : decode M.1 pc = .ok (.newarray .boolean, 2)) (hw : Cond.arrayClass .boolean ∈ gT) (hn0 : ¬ n < 0) (hN : n.toNatClampNeg = N) (hby : N ≤ 100000) (k : aS l d M n0 S0 Φ (pc + 2) lv (.ref h.2.1 :: st) (a_nw h (.inl (3, z_I N)) N) e) : aS l d M n0 S0 Φ pc lv (.int n :: st) h e :=
  s_newa (ty := .boolean) (t := 3) (a0 := z_I N) hd hw rfl (fun _ => rfl) (fun _ _ x => x) (fun _ => rfl) (fun _ => rfl) hn0 hN (by show N * 1 ≤ _; omega) k
/-- a length that is no small natural number: no answer -/
def g_sz {γ : Type} (n : Int32) (e : Option γ) : Option γ := if n < 0 ∨ 100000 < n.toNatClampNeg then none else e
theorem g_sz_some {n : Int32} {x : γ} (h : g_sz n e = some x) : (¬ n < 0 ∧ n.toNatClampNeg ≤ 100000) ∧ e = some x := by
  unfold g_sz at h
  split at h
  · cases h
  · rename_i hn
    exact ⟨⟨fun q => hn (Or.inl q), Nat.not_lt.mp (fun q => hn (Or.inr q))⟩, h⟩
theorem s_newLv {n : Int32} (hd : decode M.1 pc = .ok (.newarray .long, 2)) (hw : Cond.arrayClass .long ∈ gT) (k : aS l d M n0 S0 Φ (pc + 2) lv (.ref h.2.1 :: st) (a_nw h (.inl (1, z_L n.toNatClampNeg)) n.toNatClampNeg) e) : aS l d M n0 S0 Φ pc lv (.int n :: st) h (g_sz n e) := fun z hz =>
  s_newL hd hw (g_sz_some hz).1.1 rfl (g_sz_some hz).1.2 k z (g_sz_some hz).2
/-- switches: the table as a chain of tests -/
theorem s_tabOut {dflt lo hi : Int} {offs : Array Int} {len : Nat} {x : Int32} {tgt : Nat} (hd : decode M.1 pc = .ok (.tableswitch dflt lo hi offs, len)) (hx : x.toInt < lo ∨ hi < x.toInt) (ht : (pc : Int) + dflt = (tgt : Int)) (k : aS l d M n0 S0 Φ tgt lv st h e) : aS l d M n0 S0 Φ pc lv (.int x :: st) h e := a_step (fun p e R s m args below meth c D dA b H locs cells slots Q ls C hl hP k => lv_tableOut C.1 C.2.1 hd hx ht k) k
theorem s_tabIn {dflt lo hi : Int} {offs : Array Int} {len : Nat} {x : Int32} {off : Int} {tgt : Nat} (hd : decode M.1 pc = .ok (.tableswitch dflt lo hi offs, len)) (h1 : ¬ x.toInt < lo) (h2 : ¬ hi < x.toInt) (ho : offs[(x.toInt - lo).toNat]? = some off) (ht : (pc : Int) + off = (tgt : Int)) (k : aS l d M n0 S0 Φ tgt lv st h e) : aS l d M n0 S0 Φ pc lv (.int x :: st) h e := a_step (fun p e R s m args below meth c D dA b H locs cells slots Q ls C hl hP k => lv_tableIn C.1 C.2.1 hd h1 h2 ho ht k) k
theorem s_look {dflt : Int} {ps : Array (Int × Int)} {len : Nat} {x : Int32} {off : Int} {tgt : Nat} (hd : decode M.1 pc = .ok (.lookupswitch dflt ps, len)) (hp : (ps.toList.zip (ps.toList.drop 1)).all (fun (a, next) => a.1 < next.1) = true) (ho : Op.lookupswitch.offset ps.toList dflt x.toInt = off) (ht : (pc : Int) + off = (tgt : Int)) (k : aS l d M n0 S0 Φ tgt lv st h e) : aS l d M n0 S0 Φ pc lv (.int x :: st) h e := a_step (fun p e R s m args below meth c D dA b H locs cells slots Q ls C hl hP k => lv_lookup C.1 C.2.1 hd hp ho ht k) k
/-- a test that the pure text makes -/
theorem s_case {c : Prop} [Decidable c] (k1 : c → aS l d M n0 S0 Φ pc lv st h e1) (k2 : ¬ c → aS l d M n0 S0 Φ pc lv st h e2) : aS l d M n0 S0 Φ pc lv st h (if c then e1 else e2) := by
  by_cases hc : c
  · rw [if_pos hc]; exact k1 hc
  · rw [if_neg hc]; exact k2 hc
end aNew
