/-! ===== the state of all cells: int slots, long slots, reference slots, by cell and place ===== -/
abbrev kS : Type := (Nat → Nat → Int32) × (Nat → Nat → Int64) × (Nat → Nat → Option Nat)
def k_i (σ : kS) : Nat → Nat → Int32 := σ.1
def k_l (σ : kS) : Nat → Nat → Int64 := σ.2.1
def k_r (σ : kS) : Nat → Nat → Option Nat := σ.2.2
def k_wi (σ : kS) (x : Nat) (f : Nat → Int32) : kS := (va_up σ.1 x f, σ.2.1, σ.2.2)
def k_wl (σ : kS) (x : Nat) (f : Nat → Int64) : kS := (σ.1, va_up σ.2.1 x f, σ.2.2)
def k_wr (σ : kS) (x : Nat) (f : Nat → Option Nat) : kS := (σ.1, σ.2.1, va_up σ.2.2 x f)
theorem k_ii (σ : kS) (x : Nat) (f : Nat → Int32) : k_i (k_wi σ x f) x = f := by simp [k_i, k_wi, va_up]
theorem k_in (σ : kS) {x y : Nat} (f : Nat → Int32) (h : y ≠ x) : k_i (k_wi σ x f) y = k_i σ y := by simp [k_i, k_wi, va_up, h]
theorem k_il (σ : kS) (x y : Nat) (f : Nat → Int64) : k_i (k_wl σ x f) y = k_i σ y := rfl
theorem k_ir (σ : kS) (x y : Nat) (f : Nat → Option Nat) : k_i (k_wr σ x f) y = k_i σ y := rfl
theorem k_ll (σ : kS) (x : Nat) (f : Nat → Int64) : k_l (k_wl σ x f) x = f := by simp [k_l, k_wl, va_up]
theorem k_ln (σ : kS) {x y : Nat} (f : Nat → Int64) (h : y ≠ x) : k_l (k_wl σ x f) y = k_l σ y := by simp [k_l, k_wl, va_up, h]
theorem k_li (σ : kS) (x y : Nat) (f : Nat → Int32) : k_l (k_wi σ x f) y = k_l σ y := rfl
theorem k_lr (σ : kS) (x y : Nat) (f : Nat → Option Nat) : k_l (k_wr σ x f) y = k_l σ y := rfl
theorem k_rr (σ : kS) (x : Nat) (f : Nat → Option Nat) : k_r (k_wr σ x f) x = f := by simp [k_r, k_wr, va_up]
theorem k_rn (σ : kS) {x y : Nat} (f : Nat → Option Nat) (h : y ≠ x) : k_r (k_wr σ x f) y = k_r σ y := by simp [k_r, k_wr, va_up, h]
theorem k_ri (σ : kS) (x y : Nat) (f : Nat → Int32) : k_r (k_wi σ x f) y = k_r σ y := rfl
theorem k_rl (σ : kS) (x y : Nat) (f : Nat → Int64) : k_r (k_wl σ x f) y = k_r σ y := rfl
/-- the cells' shapes: (0, class, kinds of its fields: 0 a number, 2 a reference), (1, n): n ints, (2, n): n longs, (3, n): n references -/
def k_shl : List (Nat × Nat × List Nat) := [(0, 9, [2, 2, 0, 0, 0, 0, 2, 2, 2, 2, 2]), (0, 6, [2, 2, 2, 2, 0, 0, 0]), (0, 4, [2, 2, 2, 2, 2, 0, 0, 2]), (1, 100, []), (1, 100, []), (1, 1800, []), (1, 100, []), (1, 100, []), (1, 18, []), (0, 5, [2, 2, 2, 2, 2, 0]), (1, 100, []), (1, 1800, []), (1, 100, []), (2, 100, []), (2, 100, []), (0, 0, [2, 2, 2, 0]), (1, 12, []), (1, 12, []), (1, 240, []), (1, 40, []), (0, 6, [2, 2, 2, 2, 0, 0, 0]), (0, 4, [2, 2, 2, 2, 2, 0, 0, 2]), (1, 100, []), (1, 100, []), (1, 1800, []), (1, 100, []), (1, 100, []), (1, 18, []), (0, 5, [2, 2, 2, 2, 2, 0]), (1, 100, []), (1, 1800, []), (1, 100, []), (2, 100, []), (2, 100, []), (0, 0, [2, 2, 2, 0]), (1, 12, []), (1, 12, []), (1, 240, []), (1, 40, []), (0, 8, [2, 0]), (0, 7, [2, 0]), (1, 40, []), (0, 8, [2, 0]), (0, 7, [2, 0]), (1, 40, []), (0, 3, [0, 0, 0, 0, 0, 2, 0, 0, 2, 2, 0, 0, 2, 2, 2, 2]), (1, 6, []), (1, 6, []), (1, 6, []), (1, 6, []), (1, 30, []), (1, 30, []), (3, 6, []), (1, 30, []), (1, 30, []), (1, 30, []), (1, 30, []), (1, 30, []), (1, 30, []), (0, 2, [2, 2, 2]), (1, 18, []), (2, 10, []), (2, 10, []), (0, 1, [2, 2, 0, 0, 0, 0]), (1, 14, []), (1, 15, []), (0, 10, [2, 2, 0, 0, 0, 0, 0, 0, 2, 0, 0, 2, 2, 2, 0, 2, 2, 2, 2, 2, 0, 2, 2]), (1, 8530, []), (1, 8530, []), (1, 40, []), (1, 30, []), (1, 30, []), (1, 6, []), (1, 36, []), (1, 30, []), (1, 18, []), (2, 10, []), (2, 10, []), (1, 14, []), (1, 16384, [])]
def k_sh (x : Nat) : Nat × Nat × List Nat := k_shl.getD x (9, 0, [])
def k_fv (ad : Nat → Nat) (σ : kS) (x k kd : Nat) : Value := if kd = 2 then va_rf ((k_r σ x k).map ad) else .int (k_i σ x k)
def k_ce0 (ad : Nat → Nat) (cA : Nat → ClassId) (σ : kS) (x : Nat) (sh : Nat × Nat × List Nat) : va_E :=
  if sh.1 = 0 then .inr (sh.2.1, (List.range sh.2.2.length).map (fun k => k_fv ad σ x k (sh.2.2.getD k 0)))
  else if sh.1 = 1 then .inl (cA 0, sh.2.1, .inl (k_i σ x))
  else if sh.1 = 2 then .inl (cA 1, sh.2.1, .inr (.inl (k_l σ x)))
  else .inl (cA 2, sh.2.1, .inr (.inr (.inr (.inr (fun j => (k_r σ x j).map ad)))))
def k_ce (ad : Nat → Nat) (cA : Nat → ClassId) (σ : kS) (x : Nat) : va_E := k_ce0 ad cA σ x (k_sh x)
def k_W (ad : Nat → Nat) (cA : Nat → ClassId) (n : Nat) (σ : kS) : va_W := (List.range n).map (fun i => (ad i, k_ce ad cA σ i))
theorem k_W_at {ad : Nat → Nat} {cA : Nat → ClassId} {n : Nat} {σ : kS} {x : Nat} (h : x < n) : (k_W ad cA n σ)[x]? = some (ad x, k_ce ad cA σ x) := by
  simp [k_W, List.getElem?_map, List.getElem?_range h]
theorem k_W_set {ad : Nat → Nat} {cA : Nat → ClassId} {n : Nat} {σ σ' : kS} {x : Nat} (h : x < n) (ho : ∀ j, j ≠ x → k_ce ad cA σ' j = k_ce ad cA σ j) {e : va_E} (he : k_ce ad cA σ' x = e) : (k_W ad cA n σ).set x (ad x, e) = k_W ad cA n σ' := by
  subst he
  apply List.ext_getElem?
  intro j
  by_cases hj : j = x
  · subst hj
    rw [List.getElem?_set_self (by simp [k_W]; exact h), k_W_at h]
  · rw [List.getElem?_set_ne (Ne.symm hj)]
    by_cases hl : j < n
    · rw [k_W_at hl, k_W_at hl, ho j hj]
    · rw [List.getElem?_eq_none (by simp [k_W]; omega), List.getElem?_eq_none (by simp [k_W]; omega)]
theorem k_W_push {ad : Nat → Nat} {cA : Nat → ClassId} {n : Nat} {σ : kS} {e : va_E} (he : k_ce ad cA σ n = e) : k_W ad cA n σ ++ [(ad n, e)] = k_W ad cA (n + 1) σ := by
  subst he
  simp [k_W, List.range_succ]
theorem k_obj {ad : Nat → Nat} {cA : Nat → ClassId} {σ : kS} {x ci : Nat} {ks : List Nat} (h : k_sh x = (0, ci, ks)) : k_ce ad cA σ x = .inr (ci, (List.range ks.length).map (fun k => k_fv ad σ x k (ks.getD k 0))) := by
  simp [k_ce, k_ce0, h]
theorem k_arI {ad : Nat → Nat} {cA : Nat → ClassId} {σ : kS} {x n : Nat} (h : k_sh x = (1, n, [])) : k_ce ad cA σ x = .inl (cA 0, n, .inl (k_i σ x)) := by
  simp [k_ce, k_ce0, h]
theorem k_arL {ad : Nat → Nat} {cA : Nat → ClassId} {σ : kS} {x n : Nat} (h : k_sh x = (2, n, [])) : k_ce ad cA σ x = .inl (cA 1, n, .inr (.inl (k_l σ x))) := by
  simp [k_ce, k_ce0, h]
theorem k_arR {ad : Nat → Nat} {cA : Nat → ClassId} {σ : kS} {x n : Nat} (h : k_sh x = (3, n, [])) : k_ce ad cA σ x = .inl (cA 2, n, .inr (.inr (.inr (.inr (fun j => (k_r σ x j).map ad))))) := by
  simp [k_ce, k_ce0, h]
/-- another cell's slots don't show in a cell -/
theorem k_ce_same {ad : Nat → Nat} {cA : Nat → ClassId} {σ σ' : kS} {x : Nat} (h1 : k_i σ' x = k_i σ x) (h2 : k_l σ' x = k_l σ x) (h3 : k_r σ' x = k_r σ x) : k_ce ad cA σ' x = k_ce ad cA σ x := by
  unfold k_ce k_ce0 k_fv
  rw [h1, h2, h3]
theorem k_ce_wi {ad : Nat → Nat} {cA : Nat → ClassId} {σ : kS} {x : Nat} {f : Nat → Int32} : ∀ j, j ≠ x → k_ce ad cA (k_wi σ x f) j = k_ce ad cA σ j := fun j h => k_ce_same (k_in σ f h) rfl rfl
theorem k_ce_wl {ad : Nat → Nat} {cA : Nat → ClassId} {σ : kS} {x : Nat} {f : Nat → Int64} : ∀ j, j ≠ x → k_ce ad cA (k_wl σ x f) j = k_ce ad cA σ j := fun j h => k_ce_same rfl (k_ln σ f h) rfl
theorem k_ce_wr {ad : Nat → Nat} {cA : Nat → ClassId} {σ : kS} {x : Nat} {f : Nat → Option Nat} : ∀ j, j ≠ x → k_ce ad cA (k_wr σ x f) j = k_ce ad cA σ j := fun j h => k_ce_same rfl rfl (k_rn σ f h)
theorem k_rset {α : Type} (n k : Nat) (f : Nat → α) (v : α) : ((List.range n).map f).set k v = (List.range n).map (fun j => if j = k then v else f j) := by
  apply List.ext_getElem?
  intro j
  by_cases hj : j = k
  · subst hj
    by_cases hl : j < n
    · rw [List.getElem?_set_self (by simp; exact hl)]
      simp [List.getElem?_range hl]
    · rw [List.getElem?_eq_none (by simp; omega), List.getElem?_eq_none (by simp; omega)]
  · rw [List.getElem?_set_ne (Ne.symm hj)]
    by_cases hl : j < n
    · simp [List.getElem?_range hl, hj]
    · rw [List.getElem?_eq_none (by simp; omega), List.getElem?_eq_none (by simp; omega)]
/-! ===== values, locals, words ===== -/
def k_v (ad : Nat → Nat) : Value → Value
  | .ref i => .ref (ad i)
  | v => v
theorem k_v_cat (ad : Nat → Nat) (v : Value) : (k_v ad v).category = v.category := by cases v <;> rfl
def k_as (ad : Nat → Nat) (ls : List (Option Value)) : List (Nat × Value) := (List.range ls.length).filterMap (fun k => (ls.getD k none).map (fun v => (k, k_v ad v)))
theorem k_as_mem {ad : Nat → Nat} {ls : List (Option Value)} {q : Nat × Value} : q ∈ k_as ad ls ↔ ∃ v, ls[q.1]? = some (some v) ∧ q.2 = k_v ad v := by
  unfold k_as
  rw [List.mem_filterMap]
  constructor
  · rintro ⟨k, hk, h⟩
    have hk := List.mem_range.mp hk
    rw [List.getD_eq_getElem?_getD] at h
    cases h2 : ls[k]? with
    | none => rw [h2] at h; simp at h
    | some o =>
      rw [h2] at h
      cases o with
      | none => simp at h
      | some v =>
        simp at h
        subst h
        exact ⟨v, h2, rfl⟩
  · rintro ⟨v, h1, h2⟩
    refine ⟨q.1, List.mem_range.mpr (List.getElem?_eq_some_iff.mp h1).1, ?_⟩
    rw [List.getD_eq_getElem?_getD, h1]
    simp [← h2]
def k_L (L : Array Slot) (mx : Nat) (ad : Nat → Nat) (ls : List (Option Value)) : Prop := lv_has L mx (k_as ad ls)
theorem k_at {L : Array Slot} {mx : Nat} {ad : Nat → Nat} {ls : List (Option Value)} (h : k_L L mx ad ls) {i : Nat} {v : Value} (hl : ls[i]? = some (some v)) : L[i]? = some (.val (k_v ad v)) := h.2.2 (i, k_v ad v) (k_as_mem.mpr ⟨v, hl, rfl⟩)
/-- no long stands at the place ahead -/
def k_ok1 (ls : List (Option Value)) (i : Nat) : Bool := match i with
  | 0 => true
  | i + 1 => match ls.getD i none with
    | none => true
    | some v => v.category == 1
theorem k_st1 {L : Array Slot} {mx : Nat} {ad : Nat → Nat} {ls : List (Option Value)} {i : Nat} {v : Value} (h : lv_has L mx ((i, k_v ad v) :: (k_as ad ls).filter (fun q => !(q.1 == i) && !(q.1 + 1 == i && q.2.category == 2)))) (hok : k_ok1 ls i = true) : k_L L mx ad (ls.set i (some v)) := by
  refine ⟨h.1, h.2.1, fun q hq => ?_⟩
  obtain ⟨w, h1, h2⟩ := k_as_mem.mp hq
  apply h.2.2 q
  by_cases hi : q.1 = i
  · rw [hi] at h1
    have hlt : i < ls.length := by have := (List.getElem?_eq_some_iff.mp h1).1; simpa using this
    rw [List.getElem?_set_self hlt] at h1
    cases h1
    rw [List.mem_cons]
    left
    rw [← hi, ← h2]
  · rw [List.getElem?_set_ne (Ne.symm hi)] at h1
    rw [List.mem_cons]
    right
    rw [List.mem_filter]
    refine ⟨k_as_mem.mpr ⟨w, h1, h2⟩, ?_⟩
    simp only [Bool.and_eq_true, Bool.not_eq_true', beq_eq_false_iff_ne, ne_eq, hi, not_false_eq_true, true_and, Bool.and_eq_false_iff]
    by_cases hj : q.1 + 1 = i
    · right
      subst hj
      rw [h2, k_v_cat]
      simp only [k_ok1, List.getD_eq_getElem?_getD, h1, Option.getD_some] at hok
      have : w.category = 1 := by simpa using hok
      omega
    · left
      exact hj
theorem k_st2 {L : Array Slot} {mx : Nat} {ad : Nat → Nat} {ls : List (Option Value)} {i : Nat} {v : Value} (h : lv_has L mx ((i, k_v ad v) :: (k_as ad ls).filter (fun q => !(q.1 == i) && (!(q.1 == i + 1) && !(q.1 + 1 == i && q.2.category == 2))))) (hok : k_ok1 ls i = true) : k_L L mx ad ((ls.set i (some v)).set (i + 1) none) := by
  refine ⟨h.1, h.2.1, fun q hq => ?_⟩
  obtain ⟨w, h1, h2⟩ := k_as_mem.mp hq
  apply h.2.2 q
  by_cases hi2 : q.1 = i + 1
  · rw [hi2] at h1
    have hlt : i + 1 < (ls.set i (some v)).length := by have := (List.getElem?_eq_some_iff.mp h1).1; simpa using this
    rw [List.getElem?_set_self hlt] at h1
    cases h1
  rw [List.getElem?_set_ne (Ne.symm hi2)] at h1
  by_cases hi : q.1 = i
  · rw [hi] at h1
    have hlt : i < ls.length := by have := (List.getElem?_eq_some_iff.mp h1).1; simpa using this
    rw [List.getElem?_set_self hlt] at h1
    cases h1
    rw [List.mem_cons]
    left
    rw [← hi, ← h2]
  · rw [List.getElem?_set_ne (Ne.symm hi)] at h1
    rw [List.mem_cons]
    right
    rw [List.mem_filter]
    refine ⟨k_as_mem.mpr ⟨w, h1, h2⟩, ?_⟩
    simp only [Bool.and_eq_true, Bool.not_eq_true', beq_eq_false_iff_ne, ne_eq, hi, hi2, not_false_eq_true, true_and, Bool.and_eq_false_iff]
    by_cases hj : q.1 + 1 = i
    · right
      subst hj
      rw [h2, k_v_cat]
      simp only [k_ok1, List.getD_eq_getElem?_getD, h1, Option.getD_some] at hok
      have : w.category = 1 := by simpa using hok
      omega
    · left
      exact hj
def lw_g : List Cond := lw_tbl.filter goodWord
def k_isN : Cond → Bool
  | .methodLinkNest _ _ _ _ => true
  | _ => false
def k_F (own : String) (idx ci k : Nat) : Prop := ∃ (C : String) (T : u_T) (N : Nat), vwCl[ci]? = some (C, T, N) ∧ k < N ∧ (∀ w ∈ u_ws C T N, w ∈ lw_g) ∧ Cond.fieldLink own idx (T k).1 (T k).2.1 (T k).2.2.1 ∈ lw_g
def k_P (own : String) (idx ci k : Nat) (fin : Bool) (ok : Value → Prop) : Prop := ∃ (C : String) (T : u_T) (N : Nat) (ty0 : Nat → FieldType) (ty : FieldType), vwCl[ci]? = some (C, T, N) ∧ k < N ∧ (∀ w ∈ u_ws C T N, w ∈ lw_g) ∧ (∀ k, k < N → parseFieldDescriptor (T k).2.2.1 = some (ty0 k)) ∧ (∀ a, a < N → ∀ b, b < N → a ≠ b → (T a).2.1 ≠ (T b).2.1) ∧ Cond.fieldLink own idx (T k).1 (T k).2.1 (T k).2.2.1 ∈ lw_g ∧ (T k).2.2.2 = fin ∧ (fin = true → (T k).1 = own) ∧ parseFieldDescriptor (T k).2.2.1 = some ty ∧ ∀ v, ok v → narrow ty v = v ∧ fits ty v = true
def k_okI (v : Value) : Prop := ∃ n : Int32, v = .int n
def k_okZ (v : Value) : Prop := v = .int 0 ∨ v = .int 1
def k_okR (v : Value) : Prop := ∃ a : Nat, v = .ref a
def k_AC (own : String) (idx : Nat) : Prop := Cond.methodLink own idx arraycopyName ∈ lw_g ∧ Cond.native arraycopyName ∈ lw_g ∧ Cond.static arraycopyName ∈ lw_g ∧ Cond.initialized "java/lang/System" ∈ lw_g
def k_M (y2 : MethodName) (cc2 : ByteArray) (mx2 : Nat) (ret2 : Option FieldType) (n : Nat) : Prop := Cond.code y2 cc2 mx2 ret2 ∈ lw_g ∧ Cond.initialized y2.cls ∈ lw_g ∧ (y2.cls ≠ "java/lang/invoke/MethodHandle" ∧ y2.cls ≠ "java/lang/invoke/VarHandle" ∧ (parseMethodDescriptor y2.desc).map (fun d => d.parameters.length) = some n) ∧ plainName y2.cls = true ∧ mx2 ≤ 21
def k_MV (y2 : MethodName) : Prop := Cond.instanceMethod y2 ∈ lw_g ∧ Cond.selects y2.cls y2 y2 ∈ lw_g
