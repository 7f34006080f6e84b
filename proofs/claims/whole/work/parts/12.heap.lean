theorem goodAll {ws : List Cond} (h : ∀ w ∈ ws, w ∈ gT) : GoodIn gT ws := fun w hw => ⟨h w hw, good_of_word (List.mem_filter.mp (h w hw)).2⟩
theorem gN_on : ∀ w ∈ gN, w.onTables = true := by
  intro w hw
  simp only [gN, List.mem_cons, List.not_mem_nil, or_false] at hw
  rcases hw with rfl | rfl | rfl | rfl | rfl | rfl | rfl | rfl | rfl | rfl | rfl <;> rfl
theorem gN_warm {s U : State} (hW : s.WarmedH U.vm) : ∀ w ∈ gN, va_Nw w s → va_Nw w U := by
  intro w hw
  simp only [gN, List.mem_cons, List.not_mem_nil, or_false] at hw
  rcases hw with rfl | rfl | rfl | rfl | rfl | rfl | rfl | rfl | rfl | rfl | rfl <;> exact fun h => va_Nw.warmM hW h
def a_FL (own : String) (index ci k : Nat) : Prop := ∃ (C : String) (T : u_T) (N : Nat), vwCl[ci]? = some (C, T, N) ∧ k < N ∧ (∀ w ∈ u_ws C T N, w ∈ gT) ∧ Cond.fieldLink own index (T k).1 (T k).2.1 (T k).2.2.1 ∈ gT
def a_FW (own : String) (index ci k : Nat) (ty : FieldType) (fin : Bool) : Prop := ∃ (C : String) (T : u_T) (N : Nat) (ty0 : Nat → FieldType), vwCl[ci]? = some (C, T, N) ∧ k < N ∧ (∀ w ∈ u_ws C T N, w ∈ gT) ∧ Cond.fieldLink own index (T k).1 (T k).2.1 (T k).2.2.1 ∈ gT ∧ (∀ k, k < N → parseFieldDescriptor (T k).2.2.1 = some (ty0 k)) ∧ (∀ a, a < N → ∀ b, b < N → a ≠ b → (T a).2.1 ≠ (T b).2.1) ∧ (T k).2.2.2 = fin ∧ ty0 k = ty ∧ (fin = true → (T k).1 = own)
def a_NW (own : String) (index ci N : Nat) (fs : List Value) : Prop := ∃ (C : String) (T : u_T) (ty : Nat → FieldType), vwCl[ci]? = some (C, T, N) ∧ (∀ w ∈ u_ws C T N, w ∈ gT) ∧ (∀ k, k < N → parseFieldDescriptor (T k).2.2.1 = some (ty k)) ∧ Cond.classLink own index C ∈ gT ∧ Cond.instantiable C N ∈ gT ∧ Cond.initialized C ∈ gT ∧ (∀ j, j < N → defaultValue (ty j) = vp_V fs j) ∧ ∀ b, fs.map (a_v b) = fs
section aHeap
variable {l : Launch} {d : Nat} {M : aM} {n0 S0 : Nat} {γ : Type} {Φ : γ → Option Value → aH → Prop} {pc : Nat} {lv : List (Nat × Value)} {st : List Value} {h h2 : aH} {e e1 e2 : Option γ}
theorem s_lcmp {x y : Int64} (hd : decode M.1 pc = .ok (.lcmp, 1)) (k : aS l d M n0 S0 Φ (pc + 1) lv (.int (lg_cmp x y) :: st) h e) : aS l d M n0 S0 Φ pc lv (.long y :: .long x :: st) h e := a_step (fun p e R s m args below meth c D dA b H locs cells slots Q ls C hl hP k => W.lcmp C.1 C.2.1 hd k) k
theorem lg_cmp_z (x y : Int64) : lg_cmp x y = 0 ↔ x = y := by
  unfold lg_cmp
  by_cases h1 : x > y
  · rw [if_pos h1]
    constructor
    · intro h; exact absurd h (by decide)
    · intro h; subst h; exact absurd h1 (by exact fun q => absurd q (Int64.lt_irrefl))
  · rw [if_neg h1]
    by_cases h2 : x = y
    · rw [if_pos h2]; exact ⟨fun _ => h2, fun _ => rfl⟩
    · rw [if_neg h2]
      constructor
      · intro h; exact absurd h (by decide)
      · intro h; exact absurd h h2
theorem s_ifL {c c' : Prop} [Decidable c] [Decidable c'] (hcc : c ↔ c') (k : aS l d M n0 S0 Φ pc lv st h (if c then e1 else e2)) : aS l d M n0 S0 Φ pc lv st h (if c' then e1 else e2) := by
  have e : (if c then e1 else e2) = (if c' then e1 else e2) := by
    by_cases hc : c
    · rw [if_pos hc, if_pos (hcc.mp hc)]
    · rw [if_neg hc, if_neg (fun q => hc (hcc.mpr q))]
  rw [← e]; exact k
theorem s_get {index ci k0 a : Nat} {fs : List Value} {v : Value} (hf : a_FL M.2.1 index ci k0) (hd : decode M.1 pc = .ok (.getfield index, 3)) (hc : h.1 a = .inr (ci, fs)) (ha : a < h.2.1) (hv : fs[k0]? = some v) (k : aS l d M n0 S0 Φ (pc + 3) lv (v :: st) h e) : aS l d M n0 S0 Φ pc lv (.ref a :: st) h e := by
  obtain ⟨C0, T, N, h1, h2, h3, h4⟩ := hf
  exact a_step (fun p e R s m args below meth c D dA b H locs cells slots Q ls C hl hP k => va_get (ws := a_w b dA h) C.1 C.2.1 C.2.2.2.2.1 h3 C.2.2.2.1 C.2.2.2.2.2.2.2.2.2 hP a (by rw [a_w_at ha, hc]; rfl) h1 k0 h2 (C.2.2.2.2.1 _ h4) (fun _ x => x) (by rw [List.getElem?_map, hv]; rfl) hd k) k
/-- an instruction that writes a cell -/
theorem a_stepH {pc2 : Nat} {st2 : List Value} (hz : h2.2 = h.2) (f : ∀ (p : Program) (e : Env) (R : Room) (s : State) (m : MethodId) (args : Array Value) (below : List Frame) (meth : Method) (c : Code) (D : va_G) (dA : Nat → ClassId) (b : Nat) (H : Heap) (locs : List Loc) (cells slots : Nat) (Q : State → Prop) (ls : Array Slot),
      a_Cx p s m args meth c D dA M → lv_has ls M.2.2.1 (lv.map (fun q => (q.1, a_v b q.2))) → va_P D vwCl (a_w b dA h) H → va_S (fun q => b ≤ q) s.heap H locs → R.frames = d → R.locals = 64 * d → (∀ (H1 : Heap) (locs1 : List Loc), va_P D vwCl (a_w b dA h2) H1 → va_S (fun q => b ≤ q) s.heap H1 locs1 → W p l e R s m args below meth c H1 locs1 cells slots Q (F0 m pc2 ls (st2.map (a_v b)))) → W p l e R s m args below meth c H locs cells slots Q (F0 m pc ls (st.map (a_v b))))
    (k : aS l d M n0 S0 Φ pc2 lv st2 h2 e) : aS l d M n0 S0 Φ pc lv st h e := fun z hzz r h' hr => by
  have q := k z hzz r h' hr
  obtain ⟨q1, q2, q3⟩ := q
  rw [hz] at q1 q2
  refine ⟨q1, q2, fun p e s m args below meth c D dA b H locs ls C hs hn hS hl hP hQ => ?_⟩
  refine f p e _ s m args below meth c D dA b H locs _ _ _ ls C hl hP hQ rfl rfl (fun H1 locs1 hP1 hQ1 => ?_)
  have q4 := q3 p e s m args below meth c D dA b H1 locs1 ls C hs (by rw [hz]; exact hn) (by rw [hz]; exact hS) hl hP1 hQ1
  rw [hz] at q4
  exact q4
theorem s_put {index ci k0 a : Nat} {ty : FieldType} {fs : List Value} {v : Value} (hf : a_FW M.2.1 index ci k0 ty false) (hd : decode M.1 pc = .ok (.putfield index, 3)) (hc : h.1 a = .inr (ci, fs)) (ha : a < h.2.1) (hl0 : k0 < fs.length) (hn : ∀ b, narrow ty (a_v b v) = a_v b v) (hfit : ∀ b, fits ty (a_v b v) = true) (he : a_up h a (.inr (ci, fs.set k0 v)) = h2) (k : aS l d M n0 S0 Φ (pc + 3) lv st h2 e) : aS l d M n0 S0 Φ pc lv (v :: .ref a :: st) h e := by
  obtain ⟨C0, T, N, ty0, h1, h3, h4, h5, h6, h7, h8, h9, -⟩ := hf
  subst he
  refine a_stepH (h := h) (h2 := a_up h a (.inr (ci, fs.set k0 v))) rfl (fun p e R s m args below meth c D dA b H locs cells slots Q ls C hl hP hQ _ _ k => va_put (ws := a_w b dA h) (v := a_v b v) (ty := ty) C.1 C.2.1 C.2.2.2.2.1 h4 ty0 h6 h7 C.2.2.2.1 C.2.2.2.2.2.2.2.2.2 hP (a_D b dA h) hQ a (by rw [a_w_at ha, hc]; rfl) h1 k0 h3 (C.2.2.2.2.1 _ h5) (fun _ x => x) h8 (by rw [h6 k0 h3, h9]) (hn b) (hfit b) (by rw [List.length_map]; exact hl0) hd (fun H1 locs1 hP1 _ hQ1 => k H1 locs1 ?_ hQ1)) k
  have e1 : (b + a, (Sum.inr (ci, (fs.map (a_v b)).set k0 (a_v b v)) : va_E)) = (b + a, a_e b dA (.inr (ci, fs.set k0 v))) := by
    show _ = (b + a, (Sum.inr (ci, (fs.set k0 v).map (a_v b)) : va_E))
    rw [List.map_set]
  rw [e1, a_set] at hP1
  exact hP1
theorem s_putF {index ci k0 a : Nat} {ty : FieldType} {fs : List Value} {v : Value} (hi : M.2.2.2.2 = true) (hf : a_FW M.2.1 index ci k0 ty true) (hd : decode M.1 pc = .ok (.putfield index, 3)) (hc : h.1 a = .inr (ci, fs)) (ha : a < h.2.1) (hl0 : k0 < fs.length) (hn : ∀ b, narrow ty (a_v b v) = a_v b v) (hfit : ∀ b, fits ty (a_v b v) = true) (he : a_up h a (.inr (ci, fs.set k0 v)) = h2) (k : aS l d M n0 S0 Φ (pc + 3) lv st h2 e) : aS l d M n0 S0 Φ pc lv (v :: .ref a :: st) h e := by
  obtain ⟨C0, T, N, ty0, h1, h3, h4, h5, h6, h7, h8, h9, h10⟩ := hf
  subst he
  refine a_stepH (h := h) (h2 := a_up h a (.inr (ci, fs.set k0 v))) rfl (fun p e R s m args below meth c D dA b H locs cells slots Q ls C hl hP hQ _ _ k => va_putF (ws := a_w b dA h) (v := a_v b v) (ty := ty) C.1 C.2.1 C.2.2.2.2.1 h4 ty0 h6 h7 C.2.2.2.1 C.2.2.2.2.2.2.2.2.2 hP (a_D b dA h) hQ a (by rw [a_w_at ha, hc]; rfl) h1 k0 h3 (C.2.2.2.2.1 _ h5) (fun _ x => x) h8 (C.2.2.2.2.2.2.2.2.1 hi) (h10 rfl) (by rw [h6 k0 h3, h9]) (hn b) (hfit b) (by rw [List.length_map]; exact hl0) hd (fun H1 locs1 hP1 _ hQ1 => k H1 locs1 ?_ hQ1)) k
  have e1 : (b + a, (Sum.inr (ci, (fs.map (a_v b)).set k0 (a_v b v)) : va_E)) = (b + a, a_e b dA (.inr (ci, fs.set k0 v))) := by
    show _ = (b + a, (Sum.inr (ci, (fs.set k0 v).map (a_v b)) : va_E))
    rw [List.map_set]
  rw [e1, a_set] at hP1
  exact hP1
theorem s_iald {a n : Nat} {f : Nat → Int32} {i : Int32} (hd : decode M.1 pc = .ok (.iaload, 1)) (hc : h.1 a = .inl (0, n, .inl f)) (ha : a < h.2.1) (k : aS l d M n0 S0 Φ (pc + 1) lv (.int (f i.toNatClampNeg) :: st) h e) : aS l d M n0 S0 Φ pc lv (.int i :: .ref a :: st) h (g_in i n e) := fun z hz =>
  a_step (e := e) (fun p e R s m args below meth c D dA b H locs cells slots Q ls C hl hP k => va_iald (ws := a_w b dA h) C.1 C.2.1 C.2.2.2.2.2.2.2.2.2 hP a 0 (by rw [a_w_at ha, hc]; rfl) rfl (g_in_some hz).1 hd k) k z (g_in_some hz).2
theorem s_lald {a n : Nat} {f : Nat → Int64} {i : Int32} (hd : decode M.1 pc = .ok (.laload, 1)) (hc : h.1 a = .inl (1, n, .inr (.inl f))) (ha : a < h.2.1) (k : aS l d M n0 S0 Φ (pc + 1) lv (.long (f i.toNatClampNeg) :: st) h e) : aS l d M n0 S0 Φ pc lv (.int i :: .ref a :: st) h (g_in i n e) := fun z hz =>
  a_step (e := e) (fun p e R s m args below meth c D dA b H locs cells slots Q ls C hl hP k => va_lald (ws := a_w b dA h) C.1 C.2.1 C.2.2.2.2.2.2.2.2.2 hP a 1 (by rw [a_w_at ha, hc]; rfl) rfl (g_in_some hz).1 hd k) k z (g_in_some hz).2
theorem s_bald {a n : Nat} {f : Nat → Int32} {i : Int32} (hd : decode M.1 pc = .ok (.baload, 1)) (hc : h.1 a = .inl (2, n, .inl f)) (ha : a < h.2.1) (k : aS l d M n0 S0 Φ (pc + 1) lv (.int (f i.toNatClampNeg) :: st) h e) : aS l d M n0 S0 Φ pc lv (.int i :: .ref a :: st) h (g_in i n e) := fun z hz =>
  a_step (e := e) (fun p e R s m args below meth c D dA b H locs cells slots Q ls C hl hP k => va_bald (ws := a_w b dA h) C.1 C.2.1 C.2.2.2.2.2.2.2.2.2 hP a 2 (by rw [a_w_at ha, hc]; rfl) rfl (g_in_some hz).1 hd k) k z (g_in_some hz).2
theorem s_zald {a n : Nat} {f : Nat → Int32} {i : Int32} (hd : decode M.1 pc = .ok (.baload, 1)) (hc : h.1 a = .inl (3, n, .inl f)) (ha : a < h.2.1) (k : aS l d M n0 S0 Φ (pc + 1) lv (.int (f i.toNatClampNeg) :: st) h e) : aS l d M n0 S0 Φ pc lv (.int i :: .ref a :: st) h (g_in i n e) := fun z hz =>
  a_step (e := e) (fun p e R s m args below meth c D dA b H locs cells slots Q ls C hl hP k => va_zald (ws := a_w b dA h) C.1 C.2.1 C.2.2.2.2.2.2.2.2.2 hP a 3 (by rw [a_w_at ha, hc]; rfl) rfl (g_in_some hz).1 hd k) k z (g_in_some hz).2
def a_rf (r : Option Nat) : Value := match r with
  | none => .null
  | some a => .ref a
theorem a_rf_v (b : Nat) (r : Option Nat) : a_v b (a_rf r) = va_rf (r.map (fun a => b + a)) := by cases r <;> rfl
theorem s_aald {a n t : Nat} {C0 : String} {f : Nat → Option Nat} {i : Int32} (hd : decode M.1 pc = .ok (.aaload, 1)) (ht : ∀ dA, (a_ty dA)[t]? = some (dA t, .object C0)) (hc : h.1 a = .inl (t, n, .inr (.inr (.inr (.inr f))))) (ha : a < h.2.1) (k : aS l d M n0 S0 Φ (pc + 1) lv (a_rf (f i.toNatClampNeg) :: st) h e) : aS l d M n0 S0 Φ pc lv (.int i :: .ref a :: st) h (g_in i n e) := fun z hz =>
  a_step (e := e) (fun p e R s m args below meth c D dA b H locs cells slots Q ls C hl hP k => va_aldq (ws := a_w b dA h) (f := fun j => (f j).map (fun a => b + a)) C.1 C.2.1 C.2.2.2.2.2.2.2.2.2 hP a t (by rw [a_w_at ha, hc]; rfl) (ht dA) (g_in_some hz).1 hd (by rw [← a_rf_v]; exact k)) k z (g_in_some hz).2
theorem s_iast {a n : Nat} {f : Nat → Int32} {i x : Int32} (hd : decode M.1 pc = .ok (.iastore, 1)) (hc : h.1 a = .inl (0, n, .inl f)) (ha : a < h.2.1) (he : a_up h a (.inl (0, n, .inl (upd f i.toNatClampNeg x))) = h2) (k : aS l d M n0 S0 Φ (pc + 1) lv st h2 e) : aS l d M n0 S0 Φ pc lv (.int x :: .int i :: .ref a :: st) h (g_in i n e) := fun z hz => by
  subst he
  refine a_stepH (e := e) (h := h) (h2 := a_up h a (.inl (0, n, .inl (upd f i.toNatClampNeg x)))) rfl (fun p e R s m args below meth c D dA b H locs cells slots Q ls C hl hP hQ _ _ k => va_iast (ws := a_w b dA h) C.1 C.2.1 C.2.2.2.2.2.2.2.2.2 hP (a_D b dA h) hQ a 0 (by rw [a_w_at ha, hc]; rfl) rfl (g_in_some hz).1 hd (fun H1 locs1 hP1 _ hQ1 => k H1 locs1 ?_ hQ1)) k z (g_in_some hz).2
  rw [show (b + a, (Sum.inl (dA 0, n, Sum.inl (upd f i.toNatClampNeg x)) : va_E)) = (b + a, a_e b dA (.inl (0, n, .inl (upd f i.toNatClampNeg x)))) from rfl, a_set] at hP1
  exact hP1
theorem s_last {a n : Nat} {f : Nat → Int64} {i : Int32} {x : Int64} (hd : decode M.1 pc = .ok (.lastore, 1)) (hc : h.1 a = .inl (1, n, .inr (.inl f))) (ha : a < h.2.1) (he : a_up h a (.inl (1, n, .inr (.inl (vp_updL f i.toNatClampNeg x)))) = h2) (k : aS l d M n0 S0 Φ (pc + 1) lv st h2 e) : aS l d M n0 S0 Φ pc lv (.long x :: .int i :: .ref a :: st) h (g_in i n e) := fun z hz => by
  subst he
  refine a_stepH (e := e) (h := h) (h2 := a_up h a (.inl (1, n, .inr (.inl (vp_updL f i.toNatClampNeg x))))) rfl (fun p e R s m args below meth c D dA b H locs cells slots Q ls C hl hP hQ _ _ k => va_last (ws := a_w b dA h) C.1 C.2.1 C.2.2.2.2.2.2.2.2.2 hP (a_D b dA h) hQ a 1 (by rw [a_w_at ha, hc]; rfl) rfl (g_in_some hz).1 hd (fun H1 locs1 hP1 _ hQ1 => k H1 locs1 ?_ hQ1)) k z (g_in_some hz).2
  rw [show (b + a, (Sum.inl (dA 1, n, Sum.inr (Sum.inl (vp_updL f i.toNatClampNeg x))) : va_E)) = (b + a, a_e b dA (.inl (1, n, .inr (.inl (vp_updL f i.toNatClampNeg x))))) from rfl, a_set] at hP1
  exact hP1
theorem s_bast {a n : Nat} {f : Nat → Int32} {i x : Int32} (hd : decode M.1 pc = .ok (.bastore, 1)) (hc : h.1 a = .inl (2, n, .inl f)) (ha : a < h.2.1) (he : a_up h a (.inl (2, n, .inl (upd f i.toNatClampNeg x.toInt8.toInt32))) = h2) (k : aS l d M n0 S0 Φ (pc + 1) lv st h2 e) : aS l d M n0 S0 Φ pc lv (.int x :: .int i :: .ref a :: st) h (g_in i n e) := fun z hz => by
  subst he
  refine a_stepH (e := e) (h := h) (h2 := a_up h a (.inl (2, n, .inl (upd f i.toNatClampNeg x.toInt8.toInt32)))) rfl (fun p e R s m args below meth c D dA b H locs cells slots Q ls C hl hP hQ _ _ k => va_bast (ws := a_w b dA h) C.1 C.2.1 C.2.2.2.2.2.2.2.2.2 hP (a_D b dA h) hQ a 2 (by rw [a_w_at ha, hc]; rfl) rfl (g_in_some hz).1 hd (fun H1 locs1 hP1 _ hQ1 => k H1 locs1 ?_ hQ1)) k z (g_in_some hz).2
  rw [vp_nar_byte, show (b + a, (Sum.inl (dA 2, n, Sum.inl (upd f i.toNatClampNeg x.toInt8.toInt32)) : va_E)) = (b + a, a_e b dA (.inl (2, n, .inl (upd f i.toNatClampNeg x.toInt8.toInt32)))) from rfl, a_set] at hP1
  exact hP1
theorem s_zast {a n : Nat} {f : Nat → Int32} {i x : Int32} (hx : vp_nar .boolean x = x) (hd : decode M.1 pc = .ok (.bastore, 1)) (hc : h.1 a = .inl (3, n, .inl f)) (ha : a < h.2.1) (he : a_up h a (.inl (3, n, .inl (upd f i.toNatClampNeg x))) = h2) (k : aS l d M n0 S0 Φ (pc + 1) lv st h2 e) : aS l d M n0 S0 Φ pc lv (.int x :: .int i :: .ref a :: st) h (g_in i n e) := fun z hz => by
  subst he
  refine a_stepH (e := e) (h := h) (h2 := a_up h a (.inl (3, n, .inl (upd f i.toNatClampNeg x)))) rfl (fun p e R s m args below meth c D dA b H locs cells slots Q ls C hl hP hQ _ _ k => va_zast (ws := a_w b dA h) C.1 C.2.1 C.2.2.2.2.2.2.2.2.2 hP (a_D b dA h) hQ a 3 (by rw [a_w_at ha, hc]; rfl) rfl (g_in_some hz).1 hd (fun H1 locs1 hP1 _ hQ1 => k H1 locs1 ?_ hQ1)) k z (g_in_some hz).2
  rw [hx, show (b + a, (Sum.inl (dA 3, n, Sum.inl (upd f i.toNatClampNeg x)) : va_E)) = (b + a, a_e b dA (.inl (3, n, .inl (upd f i.toNatClampNeg x)))) from rfl, a_set] at hP1
  exact hP1
theorem s_alen {a t : Nat} {x : vp_A} {v : Int32} (hd : decode M.1 pc = .ok (.arraylength, 1)) (ht : ∀ dA, ∃ ty, (a_ty dA)[t]? = some (dA t, ty)) (hc : h.1 a = .inl (t, x)) (ha : a < h.2.1) (hv : Int32.ofNat x.1 = v) (k : aS l d M n0 S0 Φ (pc + 1) lv (.int v :: st) h e) : aS l d M n0 S0 Φ pc lv (.ref a :: st) h e :=
  a_step (e := e) (fun p e R s m args below meth c D dA b H locs cells slots Q ls C hl hP k => by
    obtain ⟨ty, hty⟩ := ht dA
    exact va_alen (ws := a_w b dA h) (x := a_a b x) C.1 C.2.1 C.2.2.2.2.2.2.2.2.2 hP a t (by rw [a_w_at ha, hc]; rfl) hty (by rw [← hv]; obtain ⟨n, f | f | f | f | f⟩ := x <;> rfl) hd k) k
/-- the ends -/
theorem s_iret {v : Int32} {x : γ} (hd : decode M.1 pc = .ok (.ireturn, 1)) (hr0 : M.2.2.2.1 = some .int) (hΦ : ∀ r h', Φ x r h' → r = some (.int v) ∧ h' = h) : aS l d M n0 S0 Φ pc lv [.int v] h (some x) := by
  intro z hz r h' hr
  cases hz
  obtain ⟨rfl, rfl⟩ := hΦ r h' hr
  refine ⟨Nat.le_refl _, Nat.le_refl _, fun p e s m args below meth c D dA b H locs ls C hs hn hS hl hP hQ => ?_⟩
  intro T hT X
  have hz := a_size X hT hs hn hP
  exact W.iret (v := v) C.1 C.2.1 (C.2.2.2.2.2.2.2.1.trans hr0) (fun t ht hW => ⟨⟨rfl, by rw [ht]; exact hz, by rw [ht]; exact hP⟩, hQ.F ht⟩) hQ.2.2 hd (hlocks := C.2.2.2.2.2.2.1) T hT X
theorem s_zret {v : Int32} {x : γ} {ty : FieldType} (hd : decode M.1 pc = .ok (.ireturn, 1)) (hr0 : M.2.2.2.1 = some ty) (hv : narrow ty (.int v) = .int v) (hΦ : ∀ r h', Φ x r h' → r = some (.int v) ∧ h' = h) : aS l d M n0 S0 Φ pc lv [.int v] h (some x) := by
  intro z hz r h' hr
  cases hz
  obtain ⟨rfl, rfl⟩ := hΦ r h' hr
  refine ⟨Nat.le_refl _, Nat.le_refl _, fun p e s m args below meth c D dA b H locs ls C hs hn hS hl hP hQ => ?_⟩
  intro T hT X
  have hz := a_size X hT hs hn hP
  exact W.zret (v := v) C.1 C.2.1 (C.2.2.2.2.2.2.2.1.trans hr0) hv (fun t ht hW => ⟨⟨rfl, by rw [ht]; exact hz, by rw [ht]; exact hP⟩, hQ.F ht⟩) hQ.2.2 hd (hlocks := C.2.2.2.2.2.2.1) T hT X
theorem s_lret {v : Int64} {x : γ} (hd : decode M.1 pc = .ok (.lreturn, 1)) (hr0 : M.2.2.2.1 = some .long) (hΦ : ∀ r h', Φ x r h' → r = some (.long v) ∧ h' = h) : aS l d M n0 S0 Φ pc lv [.long v] h (some x) := by
  intro z hz r h' hr
  cases hz
  obtain ⟨rfl, rfl⟩ := hΦ r h' hr
  refine ⟨Nat.le_refl _, Nat.le_refl _, fun p e s m args below meth c D dA b H locs ls C hs hn hS hl hP hQ => ?_⟩
  intro T hT X
  have hz := a_size X hT hs hn hP
  exact W.lret (v := v) C.1 C.2.1 (C.2.2.2.2.2.2.2.1.trans hr0) (fun t ht hW => ⟨⟨rfl, by rw [ht]; exact hz, by rw [ht]; exact hP⟩, hQ.F ht⟩) hQ.2.2 hd (hlocks := C.2.2.2.2.2.2.1) T hT X
theorem s_vret {x : γ} (hd : decode M.1 pc = .ok (.return_, 1)) (hr0 : M.2.2.2.1 = none) (hΦ : ∀ r h', Φ x r h' → r = none ∧ h' = h) : aS l d M n0 S0 Φ pc lv [] h (some x) := by
  intro z hz r h' hr
  cases hz
  obtain ⟨rfl, rfl⟩ := hΦ r h' hr
  refine ⟨Nat.le_refl _, Nat.le_refl _, fun p e s m args below meth c D dA b H locs ls C hs hn hS hl hP hQ => ?_⟩
  intro T hT X
  have hz := a_size X hT hs hn hP
  exact W.vret C.1 C.2.1 (C.2.2.2.2.2.2.2.1.trans hr0) (fun t ht hW => ⟨⟨rfl, by rw [ht]; exact hz, by rw [ht]; exact hP⟩, hQ.F ht⟩) hQ.2.2 hd (hlocks := C.2.2.2.2.2.2.1) T hT X
theorem s_aret {a : Nat} {x : γ} {C0 : String} (hd : decode M.1 pc = .ok (.areturn, 1)) (hr0 : M.2.2.2.1 = some (.object C0)) (hΦ : ∀ r h', Φ x r h' → r = some (.ref a) ∧ h' = h) : aS l d M n0 S0 Φ pc lv [.ref a] h (some x) := by
  intro z hz r h' hr
  cases hz
  obtain ⟨rfl, rfl⟩ := hΦ r h' hr
  refine ⟨Nat.le_refl _, Nat.le_refl _, fun p e s m args below meth c D dA b H locs ls C hs hn hS hl hP hQ => ?_⟩
  intro T hT X
  have hz := a_size X hT hs hn hP
  exact W.aret (v := .ref (b + a)) C.1 C.2.1 (C.2.2.2.2.2.2.2.1.trans hr0) (Or.inl ⟨_, rfl⟩) (Or.inr ⟨_, rfl⟩) (fun t ht hW => ⟨⟨rfl, by rw [ht]; exact hz, by rw [ht]; exact hP⟩, hQ.F ht⟩) hQ.2.2 hd (hlocks := C.2.2.2.2.2.2.1) T hT X
end aHeap
