/-! THE ABSTRACT HEAP. Cells by their number; a reference is a number; the cell of number i lies at address b + i. -/
abbrev aC : Type := (Nat × vp_A) ⊕ (Nat × List Value)
abbrev aH : Type := (Nat → aC) × Nat × Nat
/-- a method: code, own class, locals, return type, is it a constructor -/
abbrev aM : Type := ByteArray × String × Nat × Option FieldType × Bool
def a_v (b : Nat) : Value → Value
  | .ref a => .ref (b + a)
  | .int x => .int x
  | .long x => .long x
  | .float x => .float x
  | .double x => .double x
  | .null => .null
  | .retAddr x => .retAddr x
def a_a (b : Nat) : vp_A → vp_A
  | (n, .inl f) => (n, .inl f)
  | (n, .inr (.inl f)) => (n, .inr (.inl f))
  | (n, .inr (.inr (.inl f))) => (n, .inr (.inr (.inl f)))
  | (n, .inr (.inr (.inr (.inl f)))) => (n, .inr (.inr (.inr (.inl f))))
  | (n, .inr (.inr (.inr (.inr f)))) => (n, .inr (.inr (.inr (.inr (fun j => (f j).map (fun a => b + a))))))
def a_e (b : Nat) (dA : Nat → ClassId) : aC → va_E
  | .inl (t, x) => .inl (dA t, a_a b x)
  | .inr (ci, fs) => .inr (ci, fs.map (a_v b))
def a_w (b : Nat) (dA : Nat → ClassId) (h : aH) : va_W := (List.range h.2.1).map (fun i => (b + i, a_e b dA (h.1 i)))
abbrev a_ty (dA : Nat → ClassId) : List (ClassId × FieldType) := [(dA 0, .int), (dA 1, .long), (dA 2, .byte), (dA 3, .boolean), (dA 4, .object "SwapBook$Tray"), (dA 5, .object "SwapBook$State")]
def a_up (h : aH) (i : Nat) (c : aC) : aH := (fun j => if j = i then c else h.1 j, h.2)
/-- one more cell, of k slots -/
def a_nw (h : aH) (c : aC) (k : Nat) : aH := (fun j => if j = h.2.1 then c else h.1 j, h.2.1 + 1, h.2.2 + k)
theorem a_w_at {b : Nat} {dA : Nat → ClassId} {h : aH} {i : Nat} (hi : i < h.2.1) : (a_w b dA h)[i]? = some (b + i, a_e b dA (h.1 i)) := by
  simp [a_w, hi]
theorem a_w_lt {b : Nat} {dA : Nat → ClassId} {h : aH} {i : Nat} {q : Nat × va_E} (hq : (a_w b dA h)[i]? = some q) : i < h.2.1 ∧ q = (b + i, a_e b dA (h.1 i)) := by
  have h1 : i < (a_w b dA h).length := (List.getElem?_eq_some_iff.mp hq).1
  have h2 : i < h.2.1 := by simpa [a_w] using h1
  rw [a_w_at h2] at hq
  exact ⟨h2, (Option.some.inj hq).symm⟩
theorem a_D (b : Nat) (dA : Nat → ClassId) (h : aH) : va_D (fun q => b ≤ q) (a_w b dA h) := by
  refine ⟨fun i j p q hp hq e => ?_, fun k q hq => ?_⟩
  · obtain ⟨-, rfl⟩ := a_w_lt hp
    obtain ⟨-, rfl⟩ := a_w_lt hq
    dsimp only at e
    omega
  · obtain ⟨-, rfl⟩ := a_w_lt hq
    exact Nat.le_add_right b k
theorem a_set {b : Nat} {dA : Nat → ClassId} {h : aH} {i : Nat} {c : aC} : (a_w b dA h).set i (b + i, a_e b dA c) = a_w b dA (a_up h i c) := by
  apply List.ext_getElem?
  intro j
  by_cases hj : j < h.2.1
  · rw [List.getElem?_set, a_w_at (h := a_up h i c) hj]
    by_cases e : i = j
    · subst e
      simp [a_up, a_w, hj]
    · have e2 : ¬ j = i := fun q => e q.symm
      rw [if_neg e, a_w_at hj]
      simp [a_up, e2]
  · have h1 : (a_w b dA (a_up h i c))[j]? = none := by simp [a_w, a_up, hj]
    have h2 : ((a_w b dA h).set i (b + i, a_e b dA c))[j]? = none := by simp [a_w]; omega
    rw [h1, h2]
theorem a_app {b : Nat} {dA : Nat → ClassId} {h : aH} {c : aC} {k : Nat} : a_w b dA h ++ [(b + h.2.1, a_e b dA c)] = a_w b dA (a_nw h c k) := by
  unfold a_w a_nw
  dsimp only
  rw [List.range_succ, List.map_append]
  congr 1
  · apply List.map_congr_left
    intro i hi
    have : i < h.2.1 := List.mem_range.mp hi
    have e : ¬ i = h.2.1 := by omega
    simp [e]
  · simp
def a_R (d k n : Nat) : Room := { frames := d, cells := k, slots := n, locals := 64 * d }
/-- the end of a method: its answer, its heap, the frame -/
def a_Q (b : Nat) (dA : Nat → ClassId) (D : va_G) (r : Option Value) (h' : aH) : Array Value → State → Outcome → State → Prop := fun _ st oc t => (oc = .returned (r.map (a_v b)) ∧ t.heap.size = b + h'.2.1 ∧ va_P D vwCl (a_w b dA h') t.heap) ∧ va_F (fun q => b ≤ q) st t
def gT : List Cond := lw_tbl.filter goodWord
/-- the links of private constructors among nest mates -/
def gN : List Cond := [.methodLinkNest RX11 24 yX7_init "SwapBook", .methodLinkNest RX11 35 yX2_init "SwapBook", .methodLinkNest RX11 45 yX5_init "SwapBook", .methodLinkNest RX11 52 yX10_init "SwapBook", .methodLinkNest RX11 79 yX9_init "SwapBook", .methodLinkNest RX1 11 yX0_init "SwapBook", .methodLinkNest RX4 11 yX3_init "SwapBook", .methodLinkNest RX5 13 yX0_init "SwapBook", .methodLinkNest RX7 11 yX0_init "SwapBook", .methodLinkNest RX10 36 yX0_init "SwapBook", .methodLinkNest RX10 43 yX3_init "SwapBook"]
theorem gT_in {Ts : List Cond} (h : ∀ w ∈ gT, w ∈ Ts) {c : Cond} (hc : c ∈ gT) : GoodIn Ts (c :: gT) := by
  intro w hw
  have h1 : w ∈ gT := by
    rcases List.mem_cons.mp hw with e | e
    · rw [e]; exact hc
    · exact e
  exact ⟨h w h1, good_of_word (List.mem_filter.mp h1).2⟩
/-- what a frame of the method M knows -/
def a_Cx (p : Program) (s : State) (m : MethodId) (args : Array Value) (meth : Method) (c : Code) (D : va_G) (dA : Nat → ClassId) (M : aM) : Prop :=
  p.tables.exec = Jvm.exec ∧ c.code = M.1 ∧ c.maxLocals = M.2.2.1 ∧ s.vm.findClass M.2.1 = some m.cls ∧ (∀ w ∈ gT, w.before args s = true) ∧ (∀ w ∈ gN, va_Nw w s) ∧ meth.locks = false ∧ meth.sig.returnType = M.2.2.2.1 ∧ (M.2.2.2.2 = true → meth.name = "<init>") ∧ va_K D vwCl (a_ty dA) s
/-- FROM THIS FRAME (pc, locals, operands, heap) THE METHOD ENDS WITH r AND h' -/
def aEv (l : Launch) (d : Nat) (M : aM) (n0 S0 : Nat) (pc : Nat) (lv : List (Nat × Value)) (st : List Value) (h : aH) (r : Option Value) (h' : aH) : Prop :=
  h.2.1 ≤ h'.2.1 ∧ h.2.2 ≤ h'.2.2 ∧ ∀ (p : Program) (e : Env) (s : State) (m : MethodId) (args : Array Value) (below : List Frame) (meth : Method) (c : Code) (D : va_G) (dA : Nat → ClassId) (b : Nat) (H : Heap) (locs : List Loc) (ls : Array Slot),
    a_Cx p s m args meth c D dA M → s.heap.size = b + n0 → n0 ≤ h.2.1 → S0 ≤ h.2.2 → lv_has ls M.2.2.1 (lv.map (fun q => (q.1, a_v b q.2))) → va_P D vwCl (a_w b dA h) H → va_S (fun q => b ≤ q) s.heap H locs →
    W p l e (a_R d (h'.2.1 - n0) (h'.2.2 - S0)) s m args below meth c H locs (h.2.1 - n0) (h.2.2 - S0) (MQ below (a_Q b dA D r h') args s (h'.2.1 - n0) (h'.2.2 - S0) (fun q => b ≤ q)) (F0 m pc ls (st.map (a_v b)))
/-- the frame computes e: whatever e gives, the frame goes on as Φ says of it -/
def aS (l : Launch) (d : Nat) (M : aM) (n0 S0 : Nat) {γ : Type} (Φ : γ → Option Value → aH → Prop) (pc : Nat) (lv : List (Nat × Value)) (st : List Value) (h : aH) (e : Option γ) : Prop :=
  ∀ x, e = some x → ∀ r h', Φ x r h' → aEv l d M n0 S0 pc lv st h r h'
/-- A METHOD'S CONTRACT -/
def aMet (l : Launch) (d : Nat) (y : MethodName) (cc : ByteArray) (nL : Nat) (ret : Option FieldType) (av : List Value) (h : aH) (r : Option Value) (h' : aH) : Prop :=
  h.2.1 ≤ h'.2.1 ∧ h.2.2 ≤ h'.2.2 ∧ ∀ (D : va_G) (dA : Nat → ClassId) (b : Nat),
    Met l y (.code y cc nL ret :: gT) (a_R d (h'.2.1 - h.2.1) (h'.2.2 - h.2.2)) (va_Pc (av.map (a_v b)) (fun U => U.heap.size = b + h.2.1 ∧ va_P D vwCl (a_w b dA h) U.heap ∧ va_K D vwCl (a_ty dA) U ∧ ∀ w ∈ gN, va_Nw w U)) (a_Q b dA D r h') (h'.2.1 - h.2.1) (h'.2.2 - h.2.2) (fun q => b ≤ q)
/-- the heap's size, out of the room that was used -/
theorem a_size {p : Program} {l : Launch} {e : Env} {R : Room} {s : State} {m : MethodId} {args : Array Value} {below : List Frame} {meth : Method} {c : Code} {T : State} {locs : List Loc} {k2 b n0 : Nat} {H : Heap} {D : va_G} {dA : Nat → ClassId} {h : aH}
    (X : Stand p l e R s m args below meth c T locs (h.2.1 - n0) k2) (hT : T.heap = H) (hs : s.heap.size = b + n0) (hn : n0 ≤ h.2.1) (hP : va_P D vwCl (a_w b dA h) H) : H.size = b + h.2.1 := by
  have h1 : s.heap.size ≤ T.heap.size := X.same.2.1
  have h2 : T.heap.size ≤ s.heap.size + (h.2.1 - n0) := X.same.2.2.1
  rw [hT] at h1 h2
  by_cases e : n0 = h.2.1
  · omega
  · have hlt : h.2.1 - 1 < h.2.1 := by omega
    have h3 := (hP _ _ (a_w_at (b := b) (dA := dA) hlt)).lt
    dsimp only at h3
    omega
