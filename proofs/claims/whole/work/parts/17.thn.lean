/-- a value that gets a name -/
def thn {α β : Type} (x : α) (f : α → β) : β := f x
theorem thn_eq {α β : Type} (x : α) (f : α → β) : thn x f = f x := rfl
def FU : Nat := 100000
def oΦ {β : Type} (f : β → Option Value × aH) : β → Option Value → aH → Prop := fun x r h' => r = (f x).1 ∧ h' = (f x).2
def uI {α : Type} (s : (Nat → Int32) × α) (k : Nat) (v : Int32) : (Nat → Int32) × α := (va_up s.1 k v, s.2)
section aT
variable {l : Launch} {d : Nat} {M : aM} {n0 S0 : Nat} {γ : Type} {Φ : γ → Option Value → aH → Prop} {pc : Nat} {lv : List (Nat × Value)} {st : List Value} {h h2 : aH} {e e1 e2 : Option γ}
theorem s_istore_nT {k : Fin 4} {v : Int32} {lv' : Int32 → List (Nat × Value)} {F : Int32 → Option γ} (hd : decode M.1 pc = .ok (.istore_n k, 1)) (hn : (k : Nat) < M.2.2.1) (hs : ∀ x : Int32, ((k : Nat), Value.int x) :: lv.filter (fun q => !(q.1 == (k : Nat)) && !(q.1 + 1 == (k : Nat) && q.2.category == 2)) = lv' x) (kk : ∀ x, aS l d M n0 S0 Φ (pc + 1) (lv' x) st h (F x)) : aS l d M n0 S0 Φ pc lv (.int v :: st) h (thn v F) := s_istore_n hd hn (hs v) (kk v)
theorem s_istoreT {i : Nat} {v : Int32} {lv' : Int32 → List (Nat × Value)} {F : Int32 → Option γ} (hd : decode M.1 pc = .ok (.istore i, 2)) (hn : i < M.2.2.1) (hs : ∀ x : Int32, (i, Value.int x) :: lv.filter (fun q => !(q.1 == i) && !(q.1 + 1 == i && q.2.category == 2)) = lv' x) (kk : ∀ x, aS l d M n0 S0 Φ (pc + 2) (lv' x) st h (F x)) : aS l d M n0 S0 Φ pc lv (.int v :: st) h (thn v F) := s_istore hd hn (hs v) (kk v)
theorem s_lstore_nT {k : Fin 4} {v : Int64} {lv' : Int64 → List (Nat × Value)} {F : Int64 → Option γ} (hd : decode M.1 pc = .ok (.lstore_n k, 1)) (hn : (k : Nat) + 1 < M.2.2.1) (hs : ∀ x : Int64, ((k : Nat), Value.long x) :: lv.filter (fun q => !(q.1 == (k : Nat)) && (!(q.1 == (k : Nat) + 1) && !(q.1 + 1 == (k : Nat) && q.2.category == 2))) = lv' x) (kk : ∀ x, aS l d M n0 S0 Φ (pc + 1) (lv' x) st h (F x)) : aS l d M n0 S0 Φ pc lv (.long v :: st) h (thn v F) := s_lstore_n hd hn (hs v) (kk v)
theorem s_lstoreT {i : Nat} {v : Int64} {lv' : Int64 → List (Nat × Value)} {F : Int64 → Option γ} (hd : decode M.1 pc = .ok (.lstore i, 2)) (hn : i + 1 < M.2.2.1) (hs : ∀ x : Int64, (i, Value.long x) :: lv.filter (fun q => !(q.1 == i) && (!(q.1 == i + 1) && !(q.1 + 1 == i && q.2.category == 2))) = lv' x) (kk : ∀ x, aS l d M n0 S0 Φ (pc + 2) (lv' x) st h (F x)) : aS l d M n0 S0 Φ pc lv (.long v :: st) h (thn v F) := s_lstore hd hn (hs v) (kk v)
theorem s_iincT (k0 : Nat) {i : Nat} {n : Int} {x v : Int32} {lv' : Int32 → List (Nat × Value)} {F : Int32 → Option γ} (hd : decode M.1 pc = .ok (.iinc i n, 3)) (hk : lv[k0]? = some (i, .int x)) (hv : Int32.ofInt n = v) (hn : i < M.2.2.1) (hs : ∀ y : Int32, (i, Value.int y) :: lv.filter (fun q => !(q.1 == i) && !(q.1 + 1 == i && q.2.category == 2)) = lv' y) (kk : ∀ y, aS l d M n0 S0 Φ (pc + 3) (lv' y) st h (F y)) : aS l d M n0 S0 Φ pc lv st h (thn (x + v) F) := s_iinc k0 hd hk hv hn (hs (x + v)) (kk (x + v))
/-- a boolean answer that comes as a number -/
def g_b {γ : Type} (v : Int32) (e : Option γ) : Option γ := if v = 0 ∨ v = 1 then e else none
theorem nz_b2i (b : Bool) : narrow .boolean (.int (b2i b)) = .int (b2i b) := by cases b <;> decide
theorem s_zretB {b : Bool} {x : γ} (hd : decode M.1 pc = .ok (.ireturn, 1)) (hr0 : M.2.2.2.1 = some .boolean) (hΦ : ∀ r h', Φ x r h' → r = some (.int (b2i b)) ∧ h' = h) : aS l d M n0 S0 Φ pc lv [.int (b2i b)] h (some x) := s_zret hd hr0 (nz_b2i b) hΦ
theorem s_zretG {v : Int32} {x : γ} (hd : decode M.1 pc = .ok (.ireturn, 1)) (hr0 : M.2.2.2.1 = some .boolean) (hΦ : ∀ r h', Φ x r h' → r = some (.int (b2i (!(v == 0)))) ∧ h' = h) : aS l d M n0 S0 Φ pc lv [.int v] h (g_b v (some x)) := by
  intro z hz
  unfold g_b at hz
  split at hz
  · rename_i hv
    rcases hv with rfl | rfl
    · exact s_zret hd hr0 (by decide) hΦ z hz
    · exact s_zret hd hr0 (by decide) hΦ z hz
  · cases hz
end aT
theorem sw_out {x : Int32} {lo hi : Int} (h : ∀ i : Int, lo ≤ i → i ≤ hi → ¬ x = Int32.ofInt i) : x.toInt < lo ∨ hi < x.toInt := by
  by_cases h1 : x.toInt < lo
  · exact Or.inl h1
  · by_cases h2 : hi < x.toInt
    · exact Or.inr h2
    · exact absurd (Int32.ofInt_toInt x).symm (h x.toInt (by omega) (by omega))
/-- a method of the JDK that the machine doesn't take over -/
theorem a_ofW {l : Launch} {y : MethodName} {ws ws' : List Cond} {rm : Room} {Pc : Array Value → State → Prop} {Qc : Array Value → State → Outcome → State → Prop} {mc ms : Nat} {free : Addr → Prop} {cc : ByteArray} {maxL : Nat} {ret : Option FieldType} (hy : plainFor y = true) (hw : ws = Cond.code y cc maxL ret :: ws')
    (body : ∀ p e s m args below meth c s₁, BodyLoose p l y (headSpec ws rm) cc maxL ret e s m args below meth c s₁ → c.maxLocals = maxL → Pc args s → W p l e (headSpec ws rm).room s m args below meth c s.heap [] 0 0 (MQ below Qc args s mc ms free) (entryFrame m args maxL)) : Met l y ws rm Pc Qc mc ms free := by
  have hin : Cond.code y cc maxL ret ∈ ws := by rw [hw]; exact List.mem_cons_self
  refine MetFree.of_bodySF (code := cc) (maxLocals := maxL) (ret := ret) hy (fun args s m hb hn => ?_) (fun p e s m args below meth c s₁ B hml hP _ => ?_)
  · obtain ⟨meth, c, q1, q2, q3, q4, q5, q6, -⟩ := Cond.code_spec hn (atoms_spec (ws := ws) hb _ hin)
    exact ⟨meth, c, q1, q2, q3, q4, q5, q6⟩
  · have hz : s₁.heap = s.heap := by rw [B.state]; rfl
    obtain ⟨t, k1, o, k2, k3, k4⟩ := body p e s m args below meth c s₁ B hml hP s₁ hz (Stand.of_body B)
    exact ⟨t, o, k1, k2, k3, ⟨k4.1, k4.2⟩⟩
theorem a_methF {l : Launch} {d : Nat} {γ : Type} {Φ : γ → Option Value → aH → Prop} {h : aH} {e : Option γ} {y : MethodName} {cc : ByteArray} {nL : Nat} {ret : Option FieldType} {ini : Bool} {av : List Value} (hy : plainFor y = true) (hini : ini = true → y.name = "<init>") (hsl : ∀ b, (lg_sl (av.map (a_v b))).length ≤ nL) (body : aS l d (cc, y.cls, nL, ret, ini) h.2.1 h.2.2 Φ 0 (lv_args 0 av) [] h e) : ∀ x, e = some x → ∀ r h', Φ x r h' → aMet l d y cc nL ret av h r h' := by
  intro x hx r h' hr
  obtain ⟨q1, q2, q3⟩ := body x hx r h' hr
  refine ⟨q1, q2, fun D dA b => ?_⟩
  refine a_ofW (cc := cc) (maxL := nL) (ret := ret) hy rfl ?_
  intro p e s m args below meth c s₁ B hml hv
  obtain ⟨rfl, hsz, hP, hK, hN⟩ := hv
  have hts := atoms_spec (ws := .code y cc nL ret :: gT) B.pre
  have hl := lv_entry (av.map (a_v b)) (n := nL) (hsl b)
  rw [lg_entry_eq]
  generalize (lg_sl (av.map (a_v b)) ++ List.replicate (nL - (lg_sl (av.map (a_v b))).length) Slot.unset).toArray = ls at hl ⊢
  rw [a_args] at hl
  have key := q3 p e s m (av.map (a_v b)).toArray below meth c D dA b s.heap [] ls ⟨B.exec, B.bytes, hml, findClass_of_methodNamed B.named, fun w hw => hts w (List.mem_cons_of_mem _ hw), hN, B.notSynchronized, B.returns, fun hi => (name_of_methodNamed B.named B.method).1.trans (hini hi), hK⟩ hsz (Nat.le_refl _) (Nat.le_refl _) hl hP va_S.rf
  rw [Nat.sub_self, Nat.sub_self] at key
  exact key
