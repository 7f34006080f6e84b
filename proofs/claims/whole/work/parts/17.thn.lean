/-- a value that gets a name -/
def thn {α β : Type} (x : α) (f : α → β) : β := f x
theorem thn_eq {α β : Type} (x : α) (f : α → β) : thn x f = f x := rfl
def FU : Nat := 100000
def oΦ {β : Type} (f : β → Option Value × aH) : β → Option Value → aH → Prop := fun x r h' => r = (f x).1 ∧ h' = (f x).2
def uI {α : Type} (s : (Nat → Int32) × α) (k : Nat) (v : Int32) : (Nat → Int32) × α := (va_up s.1 k v, s.2)
section aT
variable {l : Launch} {d : Nat} {M : aM} {n0 S0 : Nat} {γ : Type} {Φ : γ → Option Value → aH → Prop} {pc : Nat} {lv : List (Nat × Value)} {st : List Value} {h h2 : aH} {e e1 e2 : Option γ}
theorem s_istore_nT {k : Fin 4} {v : Int32} {lv' : Int32 → List (Nat × Value)} {F : Int32 → Option γ} (hd : decode M.1 pc = .ok (.istore_n k, 1)) (hn : (k : Nat) < M.2.2.1) (hs : ∀ x : Int32, ((k : Nat), Value.int x) :: lv.filter (fun q => !(q.1 == (k : Nat)) && !(q.1 + 1 == (k : Nat) && q.2.category == 2)) = lv' x) (kk : ∀ x, aS l d M n0 S0 Φ (pc + 1) (lv' x) st h (F x)) : aS l d M n0 S0 Φ pc lv (.int v :: st) h (thn v F) := s_istore_n hd hn (hs v) (kk v)
theorem s_istoreT {i : Nat} {v : Int32} {lv' : Int32 → List (Nat × Value)} {F : Int32 → Option γ} (hd : decode M.1 pc = .ok (.istore i, 2)) (hn : i < M.2.2.1) (hs : ∀ x : Int32, (i, Value.int x) :: lv.filter (fun q => !(q.1 == i) && !(q.1 + 1 == i && q.2.category == 2)) = lv' x) (kk : ∀ x, aS l d M n0 S0 Φ (pc + 2) (lv' x) st h (F x)) : aS l d M n0 S0 Φ pc lv (.int v :: st) h (thn v F) := s_istore hd hn (hs v) (kk v)
theorem s_lstore_nT {k : Fin 4} {v : Int64} {lv' : Int64 → List (Nat × Value)} {F : Int64 → Option γ} (hd : decode M.1 pc = .ok (.lstore_n k, 1)) (hn : (k : Nat) + 1 < M.2.2.1) (hs : ∀ x : Int64, ((k : Nat), Value.long x) :: lv.filter (fun q => !(q.1 == (k : Nat)) && (!(q.1 == (k : Nat) + 1) && !(q.1 + 1 == (k : Nat) && q.2.category == 2))) = lv' x) (kk : ∀ x, aS l d M n0 S0 Φ (pc + 1) (lv' x) st h (F x)) : aS l d M n0 S0 Φ pc lv (.long v :: st) h (thn v F) := s_lstore_n hd hn (hs v) (kk v)
theorem s_lstoreT {i : Nat} {v : Int64} {lv' : Int64 → List (Nat × Value)} {F : Int64 → Option γ} (hd : decode M.1 pc = .ok (.lstore i, 2)) (hn : i + 1 < M.2.2.1) (hs : ∀ x : Int64, (i, Value.long x) :: lv.filter (fun q => !(q.1 == i) && (!(q.1 == i + 1) && !(q.1 + 1 == i && q.2.category == 2))) = lv' x) (kk : ∀ x, aS l d M n0 S0 Φ (pc + 2) (lv' x) st h (F x)) : aS l d M n0 S0 Φ pc lv (.long v :: st) h (thn v F) := s_lstore hd hn (hs v) (kk v)
theorem s_iincT (k0 : Nat) {i : Nat} {n : Int} {x v : Int32} {lv' : Int32 → List (Nat × Value)} {F : Int32 → Option γ} (hd : decode M.1 pc = .ok (.iinc i n, 3)) (hk : lv[k0]? = some (i, .int x)) (hv : Int32.ofInt n = v) (hn : i < M.2.2.1) (hs : ∀ y : Int32, (i, Value.int y) :: lv.filter (fun q => !(q.1 == i) && !(q.1 + 1 == i && q.2.category == 2)) = lv' y) (kk : ∀ y, aS l d M n0 S0 Φ (pc + 3) (lv' y) st h (F y)) : aS l d M n0 S0 Φ pc lv st h (thn (x + v) F) := s_iinc k0 hd hk hv hn (hs (x + v)) (kk (x + v))
/-- a boolean answer that comes as a number -/
def g_b {γ : Type} (v : Int32) (e : Option γ) : Option γ := if v = 0 ∨ v = 1 then e else none
theorem nz_b2i (b : Bool) : narrow .boolean (.int (b2i b)) = .int (b2i b) := by cases b <;> decide
theorem s_zretB {b : Bool} {x : γ} (hd : decode M.1 pc = .ok (.ireturn, 1)) (hr0 : M.2.2.2.1 = some .boolean) (hΦ : ∀ r h', Φ x r h' → r = some (.int (b2i b)) ∧ h' = h) : aS l d M n0 S0 Φ pc lv [.int (b2i b)] h (some x) := s_zret hd hr0 (nz_b2i b) hΦ
theorem s_zretG {v : Int32} {x : γ} (hd : decode M.1 pc = .ok (.ireturn, 1)) (hr0 : M.2.2.2.1 = some .boolean) (hΦ : ∀ r h', Φ x r h' → r = some (.int (b2i (!(v == 0)))) ∧ h' = h) : aS l d M n0 S0 Φ pc lv [.int v] h (g_b v (some x)) := by
  intro z hz
  unfold g_b at hz
  split at hz
  · rename_i hv
    rcases hv with rfl | rfl
    · exact s_zret hd hr0 (by decide) hΦ z hz
    · exact s_zret hd hr0 (by decide) hΦ z hz
  · cases hz
end aT
