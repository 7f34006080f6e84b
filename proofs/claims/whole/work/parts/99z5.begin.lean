/-! THE BEGIN: what both new objects hold -/
def hE : aH := (fun _ => .inl (0, z_I 0), 0, 0)
def bC (T : Nat → Int64) : List aC := kMain 0 T ++ kModel 138
def bH (T : Nat → Int64) : aH := nH hE (bC T) 74715
def b11 : RS := (fun _ => 0, fun i => if i = 13 then 1 else 0, fun _ _ => 0, fun _ _ => 0)
def b8 (T : Nat → Int64) : RS := (fun i => if i = 3 ∨ i = 4 then -1 else 0, fun _ => 0, fun _ _ => 0, fun i => if i = 1 then T else fun _ => 0)
def f7 (b : Nat) : Nat → Option Nat := fun i => if i = 0 then some (b + 1) else none
def f5 : Nat → Option Nat := fun i => if i = 0 then some 35 else if i = 5 then some 49 else none
def b5 : RS := (fun i => if i = 2 ∨ i = 3 then -1 else 0, fun _ => 0, fun _ _ => 0, fun _ _ => 0)
def b12 : RS := (fun _ => 1, fun _ => 0, fun _ _ => 0, fun _ _ => 0)
def f10 : Nat → Option Nat := fun i => if i = 7 then some 52 else if i = 8 then some 66 else none
def b9 : RS := (fun i => if i = 1 then -1 else 0, fun _ => 0, fun _ _ => 0, fun _ _ => 0)
def b13 : RS := (fun i => if i = 10 ∨ i = 11 then -1 else 0, fun i => if i = 3 then 1 else 0, fun i => if i = 1 then upd (upd (upd (upd (fun _ => 0) 0 (-1)) 1 (-1)) 2 (-1)) 3 (-1) else fun _ => 0, fun _ _ => 0)
def bL (T : Nat → Int64) : List XR := [(11, 0, fZ, b11), (8, 2, fZ, b8 T), (7, 8, f7 8, z0), (0, 9, fZ, z0), (2, 26, fZ, z0), (2, 30, fZ, z0), (5, 34, f5, b5), (12, 49, fZ, b12), (10, 50, f10, z0), (9, 79, fZ, b9), (9, 81, fZ, b9), (9, 83, fZ, b9), (9, 85, fZ, b9), (7, 87, f7 87, z0), (7, 104, f7 104, z0), (7, 121, f7 121, z0), (13, 138, fZ, b13)]
def bK : List (Nat × Nat) := [(11, 0), (8, 2), (7, 8), (0, 9), (2, 26), (2, 30), (5, 34), (12, 49), (10, 50), (9, 79), (9, 81), (9, 83), (9, 85), (7, 87), (7, 104), (7, 121), (13, 138)]
def bΩ (T : Nat → Int64) : oT := oU (bL T) (fun _ => none)
def bOwn (i : Nat) : Option (Nat × Nat) := bK.find? (fun k => decide (k.2 ≤ i) && xD k.1 (i - k.2))
theorem xD_lt {c o : Nat} (h : xD c o = true) : o < 80 := by
  unfold xD at h
  split at h
  · unfold xD0 at h; split at h <;> first | omega | cases h
  · unfold xD1 at h; split at h <;> first | omega | cases h
  · unfold xD2 at h; split at h <;> first | omega | cases h
  · unfold xD3 at h; split at h <;> first | omega | cases h
  · unfold xD4 at h; split at h <;> first | omega | cases h
  · unfold xD5 at h; split at h <;> first | omega | cases h
  · unfold xD6 at h; split at h <;> first | omega | cases h
  · unfold xD7 at h; split at h <;> first | omega | cases h
  · unfold xD8 at h; split at h <;> first | omega | cases h
  · unfold xD9 at h; split at h <;> first | omega | cases h
  · unfold xD10 at h; split at h <;> first | omega | cases h
  · unfold xD11 at h; split at h <;> first | omega | cases h
  · unfold xD12 at h; split at h <;> first | omega | cases h
  · unfold xD13 at h; have := of_decide_eq_true h; omega
  · cases h
theorem bOwn_ok : ∀ k ∈ bK, ∀ o, o < 80 → xD k.1 o = true → bOwn (k.2 + o) = some k ∧ k.2 + o < 156 := by decide +kernel
theorem oU_mem {k : Nat × Nat} {v : (Nat → Option Nat) × RS} : ∀ {L : List XR}, oU L (fun _ => none) k = some v → ∃ r ∈ L, xk r = k ∧ r.2.2 = v
  | [], h => by cases h
  | r :: L, h => by
    have h' : (if k = xk r then some r.2.2 else oU L (fun _ => none) k) = some v := h
    by_cases e : k = xk r
    · rw [if_pos e] at h'
      exact ⟨r, List.mem_cons_self, e.symm, Option.some.inj h'⟩
    · rw [if_neg e] at h'
      obtain ⟨q, q1, q2⟩ := oU_mem h'
      exact ⟨q, List.mem_cons_of_mem _ q1, q2⟩
theorem bL_K {T : Nat → Int64} : (bL T).map xk = bK := rfl
theorem b_oK {T : Nat → Int64} : oK (bΩ T) 156 := by
  have hk : ∀ k, (bΩ T k).isSome = true → k ∈ bK := fun k h => by
    obtain ⟨v, hv⟩ := Option.isSome_iff_exists.mp h
    obtain ⟨r, r1, r2, _⟩ := oU_mem hv
    rw [← bL_K (T := T), ← r2]; exact List.mem_map_of_mem r1
  refine ⟨fun k k' h1 h2 hne o o' d1 d2 he => hne ?_, fun k h1 o d1 => (bOwn_ok k (hk k h1) o (xD_lt d1) d1).2⟩
  have a1 := (bOwn_ok k (hk k h1) o (xD_lt d1) d1).1
  have a2 := (bOwn_ok k' (hk k' h2) o' (xD_lt d2) d2).1
  rw [he] at a1
  exact Option.some.inj (a1.symm.trans a2)
theorem bC_len {T : Nat → Int64} : (bC T).length = 156 := by
  unfold bC
  rw [List.length_append, kMain_len, kModel_len]
theorem b_tr : va_up (va_up (va_up (va_up (fun _ => none) 0 (some (0 + 79))) 1 (some (0 + 81))) 2 (some (0 + 83))) 3 (some (0 + 85)) = fun j => if j < 4 then some (0 + 79 + 2 * j) else none := funext fun j => match j with
  | 0 => rfl
  | 1 => rfl
  | 2 => rfl
  | 3 => rfl
  | n + 4 => by simp [va_up]
theorem b_mk : va_up (va_up (va_up (fun _ => none) 0 (some (0 + 87))) 1 (some (0 + 104))) 2 (some (0 + 121)) = fun j => if j < 3 then some (0 + 87 + 17 * j) else none := funext fun j => match j with
  | 0 => rfl
  | 1 => rfl
  | 2 => rfl
  | n + 3 => by simp [va_up]
section B
variable {T : Nat → Int64}
theorem g11 : ∀ o x, xC 11 0 fZ b11 o = some x → (bC T)[0 + o]? = some x := by
  intro o x h
  change xC11 0 fZ b11 o = some x at h
  unfold xC11 at h
  split at h
  · cases h; rfl
  · rw [← b_tr] at h; cases h; rfl
  · rw [← b_mk] at h; cases h; rfl
  · cases h; rfl
  · cases h
theorem g8 : ∀ o x, xC 8 2 fZ (b8 T) o = some x → (bC T)[2 + o]? = some x := by
  intro o x h
  change xC8 2 fZ (b8 T) o = some x at h
  unfold xC8 at h
  split at h <;> first | (cases h; rfl) | cases h
theorem g7 : ∀ o x, xC 7 8 (f7 8) z0 o = some x → (bC T)[8 + o]? = some x := by
  intro o x h
  change xC7 8 (f7 8) z0 o = some x at h
  unfold xC7 at h
  split at h <;> first | (cases h; rfl) | cases h
theorem g7a : ∀ o x, xC 7 87 (f7 87) z0 o = some x → (bC T)[87 + o]? = some x := by
  intro o x h
  change xC7 87 (f7 87) z0 o = some x at h
  unfold xC7 at h
  split at h <;> first | (cases h; rfl) | cases h
theorem g7b : ∀ o x, xC 7 104 (f7 104) z0 o = some x → (bC T)[104 + o]? = some x := by
  intro o x h
  change xC7 104 (f7 104) z0 o = some x at h
  unfold xC7 at h
  split at h <;> first | (cases h; rfl) | cases h
theorem g7c : ∀ o x, xC 7 121 (f7 121) z0 o = some x → (bC T)[121 + o]? = some x := by
  intro o x h
  change xC7 121 (f7 121) z0 o = some x at h
  unfold xC7 at h
  split at h <;> first | (cases h; rfl) | cases h
theorem g0 : ∀ o x, xC 0 9 fZ z0 o = some x → (bC T)[9 + o]? = some x := by
  intro o x h
  change xC0 9 fZ z0 o = some x at h
  unfold xC0 at h
  split at h <;> first | (cases h; rfl) | cases h
theorem g2 : ∀ o x, xC 2 26 fZ z0 o = some x → (bC T)[26 + o]? = some x := by
  intro o x h
  change xC2 26 fZ z0 o = some x at h
  unfold xC2 at h
  split at h <;> first | (cases h; rfl) | cases h
theorem g2b : ∀ o x, xC 2 30 fZ z0 o = some x → (bC T)[30 + o]? = some x := by
  intro o x h
  change xC2 30 fZ z0 o = some x at h
  unfold xC2 at h
  split at h <;> first | (cases h; rfl) | cases h
theorem g5 : ∀ o x, xC 5 34 f5 b5 o = some x → (bC T)[34 + o]? = some x := by
  intro o x h
  change xC5 34 f5 b5 o = some x at h
  unfold xC5 at h
  split at h <;> first | (cases h; rfl) | cases h
theorem g12 : ∀ o x, xC 12 49 fZ b12 o = some x → (bC T)[49 + o]? = some x := by
  intro o x h
  change xC12 b12 o = some x at h
  unfold xC12 at h
  split at h <;> first | (cases h; rfl) | cases h
theorem g10 : ∀ o x, xC 10 50 f10 z0 o = some x → (bC T)[50 + o]? = some x := by
  intro o x h
  change xC10 50 f10 z0 o = some x at h
  unfold xC10 at h
  split at h <;> first | (cases h; rfl) | cases h
theorem g9 : ∀ o x, xC 9 79 fZ b9 o = some x → (bC T)[79 + o]? = some x := by
  intro o x h
  change xC9 79 fZ b9 o = some x at h
  unfold xC9 at h
  split at h <;> first | (cases h; rfl) | cases h
theorem g9b : ∀ o x, xC 9 81 fZ b9 o = some x → (bC T)[81 + o]? = some x := by
  intro o x h
  change xC9 81 fZ b9 o = some x at h
  unfold xC9 at h
  split at h <;> first | (cases h; rfl) | cases h
theorem g9c : ∀ o x, xC 9 83 fZ b9 o = some x → (bC T)[83 + o]? = some x := by
  intro o x h
  change xC9 83 fZ b9 o = some x at h
  unfold xC9 at h
  split at h <;> first | (cases h; rfl) | cases h
theorem g9d : ∀ o x, xC 9 85 fZ b9 o = some x → (bC T)[85 + o]? = some x := by
  intro o x h
  change xC9 85 fZ b9 o = some x at h
  unfold xC9 at h
  split at h <;> first | (cases h; rfl) | cases h
theorem g13a : ∀ o, o < 18 → (kModel 138)[o]? = some (rC 138 b13 o)
  | 0, _ => rfl
  | 1, _ => rfl
  | 2, _ => rfl
  | 3, _ => rfl
  | 4, _ => rfl
  | 5, _ => rfl
  | 6, _ => rfl
  | 7, _ => rfl
  | 8, _ => rfl
  | 9, _ => rfl
  | 10, _ => rfl
  | 11, _ => rfl
  | 12, _ => rfl
  | 13, _ => rfl
  | 14, _ => rfl
  | 15, _ => rfl
  | 16, _ => rfl
  | 17, _ => rfl
  | _ + 18, h => absurd h (by omega)
theorem g13 : ∀ o x, xC 13 138 fZ b13 o = some x → (bC T)[138 + o]? = some x := by
  intro o x h
  change (if o < 18 then some (rC 138 b13 o) else none) = some x at h
  by_cases c : o < 18
  · rw [if_pos c] at h
    unfold bC
    rw [List.getElem?_append_right (by rw [kMain_len]; omega), kMain_len, Nat.add_sub_cancel_left, g13a o c, h]
  · rw [if_neg c] at h; cases h
theorem b_reg : ∀ r ∈ bL T, ∀ o x, xC r.1 r.2.1 r.2.2.1 r.2.2.2 o = some x → (bC T)[r.2.1 + o]? = some x := by
  unfold bL
  simp only [List.forall_mem_cons]
  exact ⟨g11, g8, g7, g0, g2, g2b, g5, g12, g10, g9, g9b, g9c, g9d, g7a, g7b, g7c, g13, fun _ h => absurd h List.not_mem_nil⟩
theorem b_wO : wO (bH T) (bΩ T) 156 := by
  refine ⟨b_oK, ?_, fun c b f s h o x hx => ?_⟩
  · show 156 ≤ 0 + (bC T).length
    rw [bC_len]; omega
  · obtain ⟨⟨c', b', f', s'⟩, r1, r2, r3⟩ := oU_mem h
    cases r2
    cases r3
    have e := nH_at (h := hE) (k := 74715) (b_reg _ r1 o x hx)
    rw [← Nat.zero_add (b' + o)]
    exact e
theorem b_IV (hT : tbK T) : IV 0 138 0 0 (bΩ T) := by
  refine ⟨⟨rfl, rfl, rfl, rfl, rfl, rfl, fun i hi => ?_⟩, ⟨⟨rfl, rfl, rfl⟩, ⟨rfl, fun q => absurd rfl q⟩, ⟨⟨0, by decide, rfl, by decide, fun i h => absurd h (Nat.not_lt_zero _), fun i h => absurd h (Nat.not_lt_zero _)⟩, rfl, rfl, hT⟩, fun i hi => Or.inl ?_⟩, ⟨rfl, 49, 0, rfl, rfl, ⟨by decide, ⟨by decide, fun i _ => ⟨0, by decide, by decide, by decide⟩⟩, by decide, by decide⟩, by decide, by decide⟩, ⟨fun i hi => ?_, 0, by decide, by decide, by decide, fun i h => absurd h (Nat.not_lt_zero _)⟩, rfl, 9, rfl, rfl, Or.inl ⟨rfl, fun _ => 0, fun _ => 0, fun _ => 0, fun _ => 0, fun _ => 0, 0, ⟨fun _ _ => rfl, fun _ => Nat.lt_of_sub_pos (by decide)⟩, ⟨Nat.zero_le _, Nat.zero_le _, fun k h => absurd h (Nat.not_lt_zero _)⟩, ⟨by decide, by decide, by decide, fun k h => absurd h (Nat.not_lt_zero _)⟩, fun k h => absurd h (Nat.not_lt_zero _), fun k h => absurd h (Nat.not_lt_zero _), fun _ _ => rfl, fun _ _ => rfl, fun _ _ => ⟨by decide, by decide⟩, ⟨Nat.zero_le _, fun k h => absurd h (Nat.not_lt_zero _)⟩, ⟨by decide, fun k h => absurd h (Nat.not_lt_zero _)⟩, ⟨by decide, fun k h => absurd h (Nat.not_lt_zero _)⟩, by decide⟩⟩
  · match i, hi with
    | 0, _ => rfl
    | 1, _ => rfl
    | 2, _ => rfl
    | 3, _ => rfl
    | _ + 4, h => exact absurd h (by omega)
  · match i, hi with
    | 0, _ => exact ⟨rfl, rfl⟩
    | 1, _ => exact ⟨rfl, rfl⟩
    | 2, _ => exact ⟨rfl, rfl⟩
    | 3, _ => exact ⟨rfl, rfl⟩
    | _ + 4, h => exact absurd h (by omega)
  · match i, hi with
    | 0, _ => rfl
    | 1, _ => rfl
    | 2, _ => rfl
    | _ + 3, h => exact absurd h (by omega)
theorem b_1 : (bH T).2.1 = 156 := by
  show 0 + (bC T).length = 156
  rw [bC_len]
theorem b_INV (hT : tbK T) : INV 0 138 0 (bH T) := by
  have e1 : (bH T).2.1 = 156 := b_1
  have e2 : (bH T).2.2 = 74715 := rfl
  refine ⟨bΩ T, 0, ?_, ?_, b_IV hT, ?_, ?_⟩
  · rw [e1]; exact b_wO
  · rw [e1]; decide
  · rw [e1]; decide
  · rw [e2]; decide
end B
theorem kwF_ok : tbK kwF := by
  unfold tbK
  decide +kernel
