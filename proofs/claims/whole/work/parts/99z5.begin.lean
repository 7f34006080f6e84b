/-! THE BEGIN: what both new objects hold -/
def bg_hE : aH := (fun _ => .inl (0, z_I 0), 0, 0)
def bg_bC (T : Nat → Int64) : List aC := kMain 0 T ++ kModel 138
def bg_bH (T : Nat → Int64) : aH := nH bg_hE (bg_bC T) 74715
def bg_b11 : RS := (fun _ => 0, fun i => if i = 13 then 1 else 0, fun _ _ => 0, fun _ _ => 0)
def bg_b8 (T : Nat → Int64) : RS := (fun i => if i = 3 ∨ i = 4 then -1 else 0, fun _ => 0, fun _ _ => 0, fun i => if i = 1 then T else fun _ => 0)
def bg_f7 (b : Nat) : Nat → Option Nat := fun i => if i = 0 then some (b + 1) else none
def bg_f5 : Nat → Option Nat := fun i => if i = 0 then some 35 else if i = 5 then some 49 else none
def bg_b5 : RS := (fun i => if i = 2 ∨ i = 3 then -1 else 0, fun _ => 0, fun _ _ => 0, fun _ _ => 0)
def bg_b12 : RS := (fun _ => 1, fun _ => 0, fun _ _ => 0, fun _ _ => 0)
def bg_f10 : Nat → Option Nat := fun i => if i = 7 then some 52 else if i = 8 then some 66 else none
def bg_b9 : RS := (fun i => if i = 1 then -1 else 0, fun _ => 0, fun _ _ => 0, fun _ _ => 0)
def bg_b13 : RS := (fun i => if i = 10 ∨ i = 11 then -1 else 0, fun i => if i = 3 then 1 else 0, fun i => if i = 1 then upd (upd (upd (upd (fun _ => 0) 0 (-1)) 1 (-1)) 2 (-1)) 3 (-1) else fun _ => 0, fun _ _ => 0)
def bg_bL (T : Nat → Int64) : List XR := [(11, 0, fZ, bg_b11), (8, 2, fZ, bg_b8 T), (7, 8, bg_f7 8, z0), (0, 9, fZ, z0), (2, 26, fZ, z0), (2, 30, fZ, z0), (5, 34, bg_f5, bg_b5), (12, 49, fZ, bg_b12), (10, 50, bg_f10, z0), (9, 79, fZ, bg_b9), (9, 81, fZ, bg_b9), (9, 83, fZ, bg_b9), (9, 85, fZ, bg_b9), (7, 87, bg_f7 87, z0), (7, 104, bg_f7 104, z0), (7, 121, bg_f7 121, z0), (13, 138, fZ, bg_b13)]
def bg_bK : List (Nat × Nat) := [(11, 0), (8, 2), (7, 8), (0, 9), (2, 26), (2, 30), (5, 34), (12, 49), (10, 50), (9, 79), (9, 81), (9, 83), (9, 85), (7, 87), (7, 104), (7, 121), (13, 138)]
def bg_bO (T : Nat → Int64) : oT := oU (bg_bL T) (fun _ => none)
def bg_bOwn (i : Nat) : Option (Nat × Nat) := bg_bK.find? (fun k => decide (k.2 ≤ i) && xD k.1 (i - k.2))
theorem bg_xD_lt {c o : Nat} (h : xD c o = true) : o < 80 := by
  unfold xD at h
  split at h
  · unfold xD0 at h; split at h <;> first | omega | cases h
  · unfold xD1 at h; split at h <;> first | omega | cases h
  · unfold xD2 at h; split at h <;> first | omega | cases h
  · unfold xD3 at h; split at h <;> first | omega | cases h
  · unfold xD4 at h; split at h <;> first | omega | cases h
  · unfold xD5 at h; split at h <;> first | omega | cases h
  · unfold xD6 at h; split at h <;> first | omega | cases h
  · unfold xD7 at h; split at h <;> first | omega | cases h
  · unfold xD8 at h; split at h <;> first | omega | cases h
  · unfold xD9 at h; split at h <;> first | omega | cases h
  · unfold xD10 at h; split at h <;> first | omega | cases h
  · unfold xD11 at h; split at h <;> first | omega | cases h
  · unfold xD12 at h; split at h <;> first | omega | cases h
  · unfold xD13 at h; have := of_decide_eq_true h; omega
  · cases h
theorem bg_bOwn_ok : ∀ k ∈ bg_bK, ∀ o, o < 80 → xD k.1 o = true → bg_bOwn (k.2 + o) = some k ∧ k.2 + o < 156 := by decide +kernel
theorem bg_oU_mem {k : Nat × Nat} {v : (Nat → Option Nat) × RS} : ∀ {L : List XR}, oU L (fun _ => none) k = some v → ∃ r ∈ L, xk r = k ∧ r.2.2 = v
  | [], h => by cases h
  | r :: L, h => by
    have h' : (if k = xk r then some r.2.2 else oU L (fun _ => none) k) = some v := h
    by_cases e : k = xk r
    · rw [if_pos e] at h'
      exact ⟨r, List.mem_cons_self, e.symm, Option.some.inj h'⟩
    · rw [if_neg e] at h'
      obtain ⟨q, q1, q2⟩ := bg_oU_mem h'
      exact ⟨q, List.mem_cons_of_mem _ q1, q2⟩
theorem bg_bL_K {T : Nat → Int64} : (bg_bL T).map xk = bg_bK := rfl
theorem bg_oK {T : Nat → Int64} : oK (bg_bO T) 156 := by
  have hk : ∀ k, (bg_bO T k).isSome = true → k ∈ bg_bK := fun k h => by
    obtain ⟨v, hv⟩ := Option.isSome_iff_exists.mp h
    obtain ⟨r, r1, r2, _⟩ := bg_oU_mem hv
    rw [← bg_bL_K (T := T), ← r2]; exact List.mem_map_of_mem r1
  refine ⟨fun k k' h1 h2 hne o o' d1 d2 he => hne ?_, fun k h1 o d1 => (bg_bOwn_ok k (hk k h1) o (bg_xD_lt d1) d1).2⟩
  have a1 := (bg_bOwn_ok k (hk k h1) o (bg_xD_lt d1) d1).1
  have a2 := (bg_bOwn_ok k' (hk k' h2) o' (bg_xD_lt d2) d2).1
  rw [he] at a1
  exact Option.some.inj (a1.symm.trans a2)
theorem bg_bC_len {T : Nat → Int64} : (bg_bC T).length = 156 := by
  unfold bg_bC
  rw [List.length_append, kMain_len, kModel_len]
theorem bg_tr : va_up (va_up (va_up (va_up (fun _ => none) 0 (some (0 + 79))) 1 (some (0 + 81))) 2 (some (0 + 83))) 3 (some (0 + 85)) = fun j => if j < 4 then some (0 + 79 + 2 * j) else none := funext fun j => match j with
  | 0 => rfl
  | 1 => rfl
  | 2 => rfl
  | 3 => rfl
  | n + 4 => by simp [va_up]
theorem bg_mk : va_up (va_up (va_up (fun _ => none) 0 (some (0 + 87))) 1 (some (0 + 104))) 2 (some (0 + 121)) = fun j => if j < 3 then some (0 + 87 + 17 * j) else none := funext fun j => match j with
  | 0 => rfl
  | 1 => rfl
  | 2 => rfl
  | n + 3 => by simp [va_up]
section B
variable {T : Nat → Int64}
theorem bg_g11 : ∀ o x, xC 11 0 fZ bg_b11 o = some x → (bg_bC T)[0 + o]? = some x := by
  intro o x h
  change xC11 0 fZ bg_b11 o = some x at h
  unfold xC11 at h
  split at h
  · cases h; rfl
  · rw [← bg_tr] at h; cases h; rfl
  · rw [← bg_mk] at h; cases h; rfl
  · cases h; rfl
  · cases h
theorem bg_g8 : ∀ o x, xC 8 2 fZ (bg_b8 T) o = some x → (bg_bC T)[2 + o]? = some x := by
  intro o x h
  change xC8 2 fZ (bg_b8 T) o = some x at h
  unfold xC8 at h
  split at h <;> first | (cases h; rfl) | cases h
theorem bg_g7 : ∀ o x, xC 7 8 (bg_f7 8) z0 o = some x → (bg_bC T)[8 + o]? = some x := by
  intro o x h
  change xC7 8 (bg_f7 8) z0 o = some x at h
  unfold xC7 at h
  split at h <;> first | (cases h; rfl) | cases h
theorem bg_g7a : ∀ o x, xC 7 87 (bg_f7 87) z0 o = some x → (bg_bC T)[87 + o]? = some x := by
  intro o x h
  change xC7 87 (bg_f7 87) z0 o = some x at h
  unfold xC7 at h
  split at h <;> first | (cases h; rfl) | cases h
theorem bg_g7b : ∀ o x, xC 7 104 (bg_f7 104) z0 o = some x → (bg_bC T)[104 + o]? = some x := by
  intro o x h
  change xC7 104 (bg_f7 104) z0 o = some x at h
  unfold xC7 at h
  split at h <;> first | (cases h; rfl) | cases h
theorem bg_g7c : ∀ o x, xC 7 121 (bg_f7 121) z0 o = some x → (bg_bC T)[121 + o]? = some x := by
  intro o x h
  change xC7 121 (bg_f7 121) z0 o = some x at h
  unfold xC7 at h
  split at h <;> first | (cases h; rfl) | cases h
theorem bg_g0 : ∀ o x, xC 0 9 fZ z0 o = some x → (bg_bC T)[9 + o]? = some x := by
  intro o x h
  change xC0 9 fZ z0 o = some x at h
  unfold xC0 at h
  split at h <;> first | (cases h; rfl) | cases h
theorem bg_g2 : ∀ o x, xC 2 26 fZ z0 o = some x → (bg_bC T)[26 + o]? = some x := by
  intro o x h
  change xC2 26 fZ z0 o = some x at h
  unfold xC2 at h
  split at h <;> first | (cases h; rfl) | cases h
theorem bg_g2b : ∀ o x, xC 2 30 fZ z0 o = some x → (bg_bC T)[30 + o]? = some x := by
  intro o x h
  change xC2 30 fZ z0 o = some x at h
  unfold xC2 at h
  split at h <;> first | (cases h; rfl) | cases h
theorem bg_g5 : ∀ o x, xC 5 34 bg_f5 bg_b5 o = some x → (bg_bC T)[34 + o]? = some x := by
  intro o x h
  change xC5 34 bg_f5 bg_b5 o = some x at h
  unfold xC5 at h
  split at h <;> first | (cases h; rfl) | cases h
theorem bg_g12 : ∀ o x, xC 12 49 fZ bg_b12 o = some x → (bg_bC T)[49 + o]? = some x := by
  intro o x h
  change xC12 bg_b12 o = some x at h
  unfold xC12 at h
  split at h <;> first | (cases h; rfl) | cases h
theorem bg_g10 : ∀ o x, xC 10 50 bg_f10 z0 o = some x → (bg_bC T)[50 + o]? = some x := by
  intro o x h
  change xC10 50 bg_f10 z0 o = some x at h
  unfold xC10 at h
  split at h <;> first | (cases h; rfl) | cases h
theorem bg_g9 : ∀ o x, xC 9 79 fZ bg_b9 o = some x → (bg_bC T)[79 + o]? = some x := by
  intro o x h
  change xC9 79 fZ bg_b9 o = some x at h
  unfold xC9 at h
  split at h <;> first | (cases h; rfl) | cases h
theorem bg_g9b : ∀ o x, xC 9 81 fZ bg_b9 o = some x → (bg_bC T)[81 + o]? = some x := by
  intro o x h
  change xC9 81 fZ bg_b9 o = some x at h
  unfold xC9 at h
  split at h <;> first | (cases h; rfl) | cases h
theorem bg_g9c : ∀ o x, xC 9 83 fZ bg_b9 o = some x → (bg_bC T)[83 + o]? = some x := by
  intro o x h
  change xC9 83 fZ bg_b9 o = some x at h
  unfold xC9 at h
  split at h <;> first | (cases h; rfl) | cases h
theorem bg_g9d : ∀ o x, xC 9 85 fZ bg_b9 o = some x → (bg_bC T)[85 + o]? = some x := by
  intro o x h
  change xC9 85 fZ bg_b9 o = some x at h
  unfold xC9 at h
  split at h <;> first | (cases h; rfl) | cases h
theorem bg_g13a : ∀ o, o < 18 → (kModel 138)[o]? = some (rC 138 bg_b13 o)
  | 0, _ => rfl
  | 1, _ => rfl
  | 2, _ => rfl
  | 3, _ => rfl
  | 4, _ => rfl
  | 5, _ => rfl
  | 6, _ => rfl
  | 7, _ => rfl
  | 8, _ => rfl
  | 9, _ => rfl
  | 10, _ => rfl
  | 11, _ => rfl
  | 12, _ => rfl
  | 13, _ => rfl
  | 14, _ => rfl
  | 15, _ => rfl
  | 16, _ => rfl
  | 17, _ => rfl
  | _ + 18, h => absurd h (by omega)
theorem bg_g13 : ∀ o x, xC 13 138 fZ bg_b13 o = some x → (bg_bC T)[138 + o]? = some x := by
  intro o x h
  change (if o < 18 then some (rC 138 bg_b13 o) else none) = some x at h
  by_cases c : o < 18
  · rw [if_pos c] at h
    unfold bg_bC
    rw [List.getElem?_append_right (by rw [kMain_len]; omega), kMain_len, Nat.add_sub_cancel_left, bg_g13a o c, h]
  · rw [if_neg c] at h; cases h
theorem bg_reg : ∀ r ∈ bg_bL T, ∀ o x, xC r.1 r.2.1 r.2.2.1 r.2.2.2 o = some x → (bg_bC T)[r.2.1 + o]? = some x := by
  unfold bg_bL
  simp only [List.forall_mem_cons]
  exact ⟨bg_g11, bg_g8, bg_g7, bg_g0, bg_g2, bg_g2b, bg_g5, bg_g12, bg_g10, bg_g9, bg_g9b, bg_g9c, bg_g9d, bg_g7a, bg_g7b, bg_g7c, bg_g13, fun _ h => absurd h List.not_mem_nil⟩
theorem bg_wO : wO (bg_bH T) (bg_bO T) 156 := by
  refine ⟨bg_oK, ?_, fun c b f s h o x hx => ?_⟩
  · show 156 ≤ 0 + (bg_bC T).length
    rw [bg_bC_len]; omega
  · obtain ⟨⟨c', b', f', s'⟩, r1, r2, r3⟩ := bg_oU_mem h
    cases r2
    cases r3
    have e := nH_at (h := bg_hE) (k := 74715) (bg_reg _ r1 o x hx)
    rw [← Nat.zero_add (b' + o)]
    exact e
theorem bg_IV (hT : tbK T) : IV 0 138 0 0 (bg_bO T) := by
  refine ⟨⟨rfl, rfl, rfl, rfl, rfl, rfl, fun i hi => ?_⟩, ⟨⟨rfl, rfl, rfl⟩, ⟨rfl, fun q => absurd rfl q⟩, ⟨⟨0, by first | rfl | decide, rfl, by first | rfl | decide, fun i h => absurd h (Nat.not_lt_zero _), fun i h => absurd h (Nat.not_lt_zero _)⟩, rfl, rfl, hT⟩, fun i hi => Or.inl ?_⟩, ⟨rfl, 49, 0, rfl, rfl, ⟨by first | rfl | decide, ⟨by first | rfl | decide, fun i _ => ⟨0, by first | rfl | decide, by first | rfl | decide, by first | rfl | decide⟩⟩, by first | rfl | decide, by first | rfl | decide⟩, by first | rfl | decide, by first | rfl | decide⟩, ⟨fun i hi => ?_, 0, by first | rfl | decide, by first | rfl | decide, by first | rfl | decide, fun i h => absurd h (Nat.not_lt_zero _)⟩, rfl, 9, rfl, rfl, Or.inl ⟨rfl, fun _ => 0, fun _ => 0, fun _ => 0, fun _ => 0, fun _ => 0, 0, ⟨fun _ _ => rfl, fun _ => (by decide : 0 < 65536)⟩, ⟨Nat.zero_le _, Nat.zero_le _, fun k h => absurd h (Nat.not_lt_zero _)⟩, ⟨by first | rfl | decide, by first | rfl | decide, by first | rfl | decide, fun k h => absurd h (Nat.not_lt_zero _)⟩, fun k h => absurd h (Nat.not_lt_zero _), fun k h => absurd h (Nat.not_lt_zero _), fun _ _ => rfl, fun _ _ => rfl, fun _ _ => ⟨(by decide : 0 < 2 ^ 0), (by decide : lk (fun _ => 0) 0 = 0)⟩, ⟨Nat.zero_le _, fun k h => absurd h (Nat.not_lt_zero _)⟩, ⟨by first | rfl | decide, fun k h => absurd h (Nat.not_lt_zero _)⟩, ⟨by first | rfl | decide, fun k h => absurd h (Nat.not_lt_zero _)⟩, by first | rfl | decide⟩⟩
  · match i, hi with
    | 0, _ => rfl
    | 1, _ => rfl
    | 2, _ => rfl
    | 3, _ => rfl
    | _ + 4, h => exact absurd h (by omega)
  · match i, hi with
    | 0, _ => exact ⟨rfl, rfl⟩
    | 1, _ => exact ⟨rfl, rfl⟩
    | 2, _ => exact ⟨rfl, rfl⟩
    | 3, _ => exact ⟨rfl, rfl⟩
    | _ + 4, h => exact absurd h (by omega)
  · match i, hi with
    | 0, _ => rfl
    | 1, _ => rfl
    | 2, _ => rfl
    | _ + 3, h => exact absurd h (by omega)
theorem bg_1 : (bg_bH T).2.1 = 156 := by
  show 0 + (bg_bC T).length = 156
  rw [bg_bC_len]
theorem bg_INV (hT : tbK T) : INV 0 138 0 (bg_bH T) := by
  have e1 : (bg_bH T).2.1 = 156 := bg_1
  have e2 : (bg_bH T).2.2 = 74715 := rfl
  refine ⟨bg_bO T, 0, ?_, ?_, bg_IV hT, ?_, ?_⟩
  · rw [e1]; exact bg_wO
  · rw [e1]; decide
  · rw [e1]; decide
  · rw [e2]; decide
end B
theorem bg_kwF_ok : tbK kwF := by
  unfold tbK
  decide +kernel
